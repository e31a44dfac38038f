def G_X9_within (p0 : Int32) (p1 : Int32) (p2 : Int32) : Option (Int32) :=
  if p0 < p1 then
    some 0
  else
    if p2 < p0 then
      some 0
    else
      some 1
abbrev rm_X9_within : Room := { frames := 0, cells := 0, slots := 0, locals := 0 }
theorem hdS_X9_within : yX9_within.cls ≠ "java/lang/invoke/MethodHandle" ∧ yX9_within.cls ≠ "java/lang/invoke/VarHandle" ∧ (parseMethodDescriptor yX9_within.desc).map (fun d => d.parameters.length) = some 3 := by decide +kernel
set_option maxHeartbeats 4000000 in
set_option maxRecDepth 100000 in
theorem c_X9_within (l : Launch) (dC : Nat → ClassId) (dI : Nat → Nat → Nat) (cy : Nat → ClassId)  (p0 : Int32) (p1 : Int32) (p2 : Int32) (res : Int32) (h : G_X9_within p0 p1 p2 = some res) : CT l (dC, dI) (TY cy) yX9_within cX9_within 3 (some .boolean) rm_X9_within [.int p0, .int p1, .int p2] ([]) ([]) (some (.int res)) := by
  refine CT.mk_z (own := RX9) ⟨by decide, rfl⟩ (Nat.le_of_ble_eq_true rfl) ?_
  intro p e s mm args below meth cd A Q hx hb hml hown htg hN hK hA hP hD hS hE ls hl
  have hl : lv_has ls 3 [(0, .int p0), (1, .int p1), (2, .int p2)] := hl
  replace h : _ = some res := h
  unfold G_X9_within at h
  obtain ⟨H, hH⟩ : ∃ H, H = s.heap := ⟨_, rfl⟩
  obtain ⟨locs, hlocs⟩ : ∃ locs : List Loc, locs = [] := ⟨_, rfl⟩
  rw [← hlocs] at hS ⊢
  have hS : va_S A s.heap H locs := by rw [hH]; exact hS
  rw [← hH] at hP ⊢
  refine lv_iload_n hx hb dX9_within_0 rfl (lv_at hl 0 rfl) ?_
  refine lv_iload_n hx hb dX9_within_1 rfl (lv_at hl 1 rfl) ?_
  refine lv_icmp_lt (tgt := 14) hx hb dX9_within_2 (by decide) (fun c2 => ?_) (fun c2 => ?_)
  · replace h := if_t h c2
    refine lv_iconst (v := 0) hx hb dX9_within_14 (by decide) ?_
    obtain rfl := Option.some.inj h
    exact hE H locs 15 ls _ hP hD hS rfl (Or.inl rfl) dX9_within_15
  replace h := if_f h c2
  refine lv_iload_n hx hb dX9_within_5 rfl (lv_at hl 0 rfl) ?_
  refine lv_iload_n hx hb dX9_within_6 rfl (lv_at hl 2 rfl) ?_
  refine lv_icmp_gt (tgt := 14) hx hb dX9_within_7 (by decide) (fun c7 => ?_) (fun c7 => ?_)
  · replace h := if_t h c7
    refine lv_iconst (v := 0) hx hb dX9_within_14 (by decide) ?_
    obtain rfl := Option.some.inj h
    exact hE H locs 15 ls _ hP hD hS rfl (Or.inl rfl) dX9_within_15
  replace h := if_f h c7
  refine lv_iconst (v := 1) hx hb dX9_within_10 (by decide) ?_
  refine lv_goto (tgt := 15) hx hb dX9_within_11 (by decide) ?_
  obtain rfl := Option.some.inj h
  exact hE H locs 15 ls _ hP hD hS rfl (Or.inr rfl) dX9_within_15
def G_X9_many (m0 : Mod) (p1 : Int32) : Option (Int32) :=
  (rd 85 (m_state m0) (1 + p1)).bind fun v7 =>
  some v7
abbrev rm_X9_many : Room := { frames := 0, cells := 0, slots := 0, locals := 0 }
theorem hdS_X9_many : yX9_many.cls ≠ "java/lang/invoke/MethodHandle" ∧ yX9_many.cls ≠ "java/lang/invoke/VarHandle" ∧ (parseMethodDescriptor yX9_many.desc).map (fun d => d.parameters.length) = some 1 := by decide +kernel
theorem hdV_X9_many : yX9_many.cls = RX9 ∧ yX9_many.cls ≠ "java/lang/invoke/MethodHandle" ∧ yX9_many.cls ≠ "java/lang/invoke/VarHandle" ∧ (parseMethodDescriptor yX9_many.desc).map (fun d => d.parameters.length) = some 1 := ⟨rfl, hdS_X9_many⟩
set_option maxHeartbeats 4000000 in
set_option maxRecDepth 100000 in
theorem c_X9_many (l : Launch) (dC : Nat → ClassId) (dI : Nat → Nat → Nat) (cy : Nat → ClassId) (a0 : Nat → Nat) (m0 : Mod) (p1 : Int32) (res : Int32) (h : G_X9_many m0 p1 = some res) : CT l (dC, dI) (TY cy) yX9_many cX9_many 2 (some .int) rm_X9_many [.ref (a0 0), .int p1] (wMod a0 cy m0) (wMod a0 cy m0) (some (.int res)) := by
  refine CT.mk_i (own := RX9) ⟨by decide, rfl⟩ (Nat.le_of_ble_eq_true rfl) ?_
  intro p e s mm args below meth cd A Q hx hb hml hown htg hN hK hA hP hD hS hE ls hl
  have hl : lv_has ls 2 [(0, .ref (a0 0)), (1, .int p1)] := hl
  replace h : _ = some res := h
  unfold G_X9_many at h
  obtain ⟨H, hH⟩ : ∃ H, H = s.heap := ⟨_, rfl⟩
  obtain ⟨locs, hlocs⟩ : ∃ locs : List Loc, locs = [] := ⟨_, rfl⟩
  rw [← hlocs] at hS ⊢
  have hS : va_S A s.heap H locs := by rw [hH]; exact hS
  rw [← hH] at hP ⊢
  refine lv_aload_n hx hb dX9_many_0 rfl (lv_at hl 0 rfl) ?_
  refine va_get (D := (dC, dI)) (ci := 4) (v := .ref (a0 1)) (C := RX9) (T := TX9) (N := 18) hx hb htg inX9 hown hK hP 0 rfl rfl 1 (by decide) (htg _ gw851) (fun _ h9 => h9) rfl dX9_many_1 ?_
  refine lv_iconst (v := 1) hx hb dX9_many_4 (by decide) ?_
  refine lv_iload_n hx hb dX9_many_5 rfl (lv_at hl 1 rfl) ?_
  refine lv_iadd hx hb dX9_many_6 ?_
  obtain ⟨v7, e7, h⟩ := bnd h
  refine x_iald (v := v7) hx hb hK hP 1 0 rfl rfl e7 dX9_many_7 ?_
  obtain rfl := Option.some.inj h
  exact hE H locs 8 ls _ hP hD hS rfl dX9_many_8
def G_X9_cornerMany_L4  (m0 : Mod) : Nat → Int32 → Int32 → Option (Int32)
  | 0, _, _ => none
  | n4 + 1, l2_4, l1_4 =>
    (rd 85 (m_state m0) 0).bind fun v10 =>
    if v10 ≤ l2_4 then
      some l1_4
    else
      (G_X9_many m0 l2_4).bind fun v17 =>
      (G_X9_cornerMany_L4 m0 n4) (l2_4 + 1) (l1_4 + v17)
def G_X9_cornerMany (m0 : Mod) : Option (Int32) :=
  G_X9_cornerMany_L4 m0 FU 0 0
abbrev rm_X9_cornerMany : Room := { frames := 1, cells := 0, slots := 0, locals := 21 }
theorem hdS_X9_cornerMany : yX9_cornerMany.cls ≠ "java/lang/invoke/MethodHandle" ∧ yX9_cornerMany.cls ≠ "java/lang/invoke/VarHandle" ∧ (parseMethodDescriptor yX9_cornerMany.desc).map (fun d => d.parameters.length) = some 0 := by decide +kernel
theorem hdV_X9_cornerMany : yX9_cornerMany.cls = RX9 ∧ yX9_cornerMany.cls ≠ "java/lang/invoke/MethodHandle" ∧ yX9_cornerMany.cls ≠ "java/lang/invoke/VarHandle" ∧ (parseMethodDescriptor yX9_cornerMany.desc).map (fun d => d.parameters.length) = some 0 := ⟨rfl, hdS_X9_cornerMany⟩
set_option maxHeartbeats 4000000 in
set_option maxRecDepth 100000 in
theorem c_X9_cornerMany (l : Launch) (dC : Nat → ClassId) (dI : Nat → Nat → Nat) (cy : Nat → ClassId) (a0 : Nat → Nat) (m0 : Mod) (res : Int32) (h : G_X9_cornerMany m0 = some res) : CT l (dC, dI) (TY cy) yX9_cornerMany cX9_cornerMany 3 (some .int) rm_X9_cornerMany [.ref (a0 0)] (wMod a0 cy m0) (wMod a0 cy m0) (some (.int res)) := by
  refine CT.mk_i (own := RX9) ⟨by decide, rfl⟩ (Nat.le_of_ble_eq_true rfl) ?_
  intro p e s mm args below meth cd A Q hx hb hml hown htg hN hK hA hP hD hS hE ls hl
  have hl : lv_has ls 3 [(0, .ref (a0 0))] := hl
  replace h : _ = some res := h
  unfold G_X9_cornerMany at h
  obtain ⟨H, hH⟩ : ∃ H, H = s.heap := ⟨_, rfl⟩
  obtain ⟨locs, hlocs⟩ : ∃ locs : List Loc, locs = [] := ⟨_, rfl⟩
  rw [← hlocs] at hS ⊢
  have hS : va_S A s.heap H locs := by rw [hH]; exact hS
  rw [← hH] at hP ⊢
  refine lv_iconst (v := 0) hx hb dX9_cornerMany_0 (by decide) ?_
  refine lv_istore_n (lv' := [(1, .int 0), (0, .ref (a0 0))]) hx hb dX9_cornerMany_1 rfl hl (by decide) rfl (fun ls hl => ?_)
  refine lv_iconst (v := 0) hx hb dX9_cornerMany_2 (by decide) ?_
  refine lv_istore_n (lv' := [(2, .int 0), (1, .int 0), (0, .ref (a0 0))]) hx hb dX9_cornerMany_3 rfl hl (by decide) rfl (fun ls hl => ?_)
  have hL4 : ∀ (n4 : Nat) (l2_4 : Int32) (l1_4 : Int32) (H : Heap) (locs : List Loc) (ls : Array Slot), G_X9_cornerMany_L4 m0 n4 l2_4 l1_4 = some res → va_P (dC, dI) vwCl (wMod a0 cy m0) H → va_D A (wMod a0 cy m0) → va_S A s.heap H locs → lv_has ls 3 [(2, .int l2_4), (1, .int l1_4), (0, .ref (a0 0))] → W p l e rm_X9_cornerMany s mm args below meth cd H locs 0 0 Q (F0 mm 4 ls []) := by
    intro n4
    induction n4 with
    | zero => intro l2_4 l1_4 H locs ls h; exact absurd h (by simp [G_X9_cornerMany_L4])
    | succ n4 ih4 =>
      intro l2_4 l1_4 H locs ls h hP hD hS hl
      rw [G_X9_cornerMany_L4] at h
      refine lv_iload_n hx hb dX9_cornerMany_4 rfl (lv_at hl 0 rfl) ?_
      refine lv_aload_n hx hb dX9_cornerMany_5 rfl (lv_at hl 2 rfl) ?_
      refine va_get (D := (dC, dI)) (ci := 4) (v := .ref (a0 1)) (C := RX9) (T := TX9) (N := 18) hx hb htg inX9 hown hK hP 0 rfl rfl 1 (by decide) (htg _ gw851) (fun _ h9 => h9) rfl dX9_cornerMany_6 ?_
      refine lv_iconst (v := 0) hx hb dX9_cornerMany_9 (by decide) ?_
      obtain ⟨v10, e10, h⟩ := bnd h
      refine x_iald (v := v10) hx hb hK hP 1 0 rfl rfl e10 dX9_cornerMany_10 ?_
      refine lv_icmp_ge (tgt := 28) hx hb dX9_cornerMany_11 (by decide) (fun c11 => ?_) (fun c11 => ?_)
      · replace h := if_t h c11
        refine lv_iload_n hx hb dX9_cornerMany_28 rfl (lv_at hl 1 rfl) ?_
        obtain rfl := Option.some.inj h
        exact hE H locs 29 ls _ hP hD hS rfl dX9_cornerMany_29
      replace h := if_f h c11
      refine lv_iload_n hx hb dX9_cornerMany_14 rfl (lv_at hl 1 rfl) ?_
      refine lv_aload_n hx hb dX9_cornerMany_15 rfl (lv_at hl 2 rfl) ?_
      refine lv_iload_n hx hb dX9_cornerMany_16 rfl (lv_at hl 0 rfl) ?_
      obtain ⟨v17, e17, h⟩ := bnd h
      refine cV (av := [.int l2_4]) (rest := [.int l1_4]) (st1 := [.int v17, .int l1_4]) (k1 := 0) (k2 := 0) (ci := 4) (q0 := 0) hx hb hml hown htg hN hK (c_X9_many l dC dI cy a0 m0 l2_4 v17 e17) (g_V gw935 gw937 gw10 gw63 gw938) hdV_X9_many rfl ⟨⟨Nat.le_of_ble_eq_true rfl, Nat.le_of_ble_eq_true rfl⟩, Nat.le_of_ble_eq_true rfl, Nat.le_of_ble_eq_true rfl⟩ hP hD hS hA ⟨rfl, rfl⟩ rfl [0, 1, 2, 3, 4, 5, 6, 7, 8, 9, 10, 11, 12, 13, 14] [] rfl rfl rfl (by decide) (by decide) hl.1 rfl (Nat.le_of_ble_eq_true rfl) rfl rfl rfl dX9_cornerMany_17 (fun H locs hP hD hS => ?_)
      have hP : va_P (dC, dI) vwCl (wMod a0 cy m0) H := hP
      have hD : va_D A (wMod a0 cy m0) := hD
      refine lv_iadd hx hb dX9_cornerMany_20 ?_
      refine lv_istore_n (lv' := [(1, .int (l1_4 + v17)), (2, .int l2_4), (0, .ref (a0 0))]) hx hb dX9_cornerMany_21 rfl hl (by decide) rfl (fun ls hl => ?_)
      refine lv_iinc (v := l2_4 + 1) (lv' := [(2, .int (l2_4 + 1)), (1, .int (l1_4 + v17)), (0, .ref (a0 0))]) hx hb dX9_cornerMany_22 hl (k := 1) rfl rfl (by decide) rfl (fun ls hl => ?_)
      refine lv_goto (tgt := 4) hx hb dX9_cornerMany_25 (by decide) ?_
      exact ih4 (l2_4 + 1) (l1_4 + v17) H locs ls h hP hD hS (lv_sub hl [0, 1, 2] rfl)
  exact hL4 FU 0 0 H locs ls h hP hD hS (lv_sub hl [0, 1, 2] rfl)
def G_X9_next (m0 : Mod) (p1 : Int32) (p2 : Int32) : Option (Int32) :=
  (G_X9_many m0 p1).bind fun v5 =>
  if p2 + 1 = v5 then
    some 0
  else
    some (p2 + 1)
abbrev rm_X9_next : Room := { frames := 1, cells := 0, slots := 0, locals := 21 }
theorem hdS_X9_next : yX9_next.cls ≠ "java/lang/invoke/MethodHandle" ∧ yX9_next.cls ≠ "java/lang/invoke/VarHandle" ∧ (parseMethodDescriptor yX9_next.desc).map (fun d => d.parameters.length) = some 2 := by decide +kernel
theorem hdV_X9_next : yX9_next.cls = RX9 ∧ yX9_next.cls ≠ "java/lang/invoke/MethodHandle" ∧ yX9_next.cls ≠ "java/lang/invoke/VarHandle" ∧ (parseMethodDescriptor yX9_next.desc).map (fun d => d.parameters.length) = some 2 := ⟨rfl, hdS_X9_next⟩
set_option maxHeartbeats 4000000 in
set_option maxRecDepth 100000 in
theorem c_X9_next (l : Launch) (dC : Nat → ClassId) (dI : Nat → Nat → Nat) (cy : Nat → ClassId) (a0 : Nat → Nat) (m0 : Mod) (p1 : Int32) (p2 : Int32) (res : Int32) (h : G_X9_next m0 p1 p2 = some res) : CT l (dC, dI) (TY cy) yX9_next cX9_next 3 (some .int) rm_X9_next [.ref (a0 0), .int p1, .int p2] (wMod a0 cy m0) (wMod a0 cy m0) (some (.int res)) := by
  refine CT.mk_i (own := RX9) ⟨by decide, rfl⟩ (Nat.le_of_ble_eq_true rfl) ?_
  intro p e s mm args below meth cd A Q hx hb hml hown htg hN hK hA hP hD hS hE ls hl
  have hl : lv_has ls 3 [(0, .ref (a0 0)), (1, .int p1), (2, .int p2)] := hl
  replace h : _ = some res := h
  unfold G_X9_next at h
  obtain ⟨H, hH⟩ : ∃ H, H = s.heap := ⟨_, rfl⟩
  obtain ⟨locs, hlocs⟩ : ∃ locs : List Loc, locs = [] := ⟨_, rfl⟩
  rw [← hlocs] at hS ⊢
  have hS : va_S A s.heap H locs := by rw [hH]; exact hS
  rw [← hH] at hP ⊢
  refine lv_iload_n hx hb dX9_next_0 rfl (lv_at hl 2 rfl) ?_
  refine lv_iconst (v := 1) hx hb dX9_next_1 (by decide) ?_
  refine lv_iadd hx hb dX9_next_2 ?_
  refine lv_aload_n hx hb dX9_next_3 rfl (lv_at hl 0 rfl) ?_
  refine lv_iload_n hx hb dX9_next_4 rfl (lv_at hl 1 rfl) ?_
  obtain ⟨v5, e5, h⟩ := bnd h
  refine cV (av := [.int p1]) (rest := [.int (p2 + 1)]) (st1 := [.int v5, .int (p2 + 1)]) (k1 := 0) (k2 := 0) (ci := 4) (q0 := 0) hx hb hml hown htg hN hK (c_X9_many l dC dI cy a0 m0 p1 v5 e5) (g_V gw935 gw937 gw10 gw63 gw938) hdV_X9_many rfl ⟨⟨Nat.le_of_ble_eq_true rfl, Nat.le_of_ble_eq_true rfl⟩, Nat.le_of_ble_eq_true rfl, Nat.le_of_ble_eq_true rfl⟩ hP hD hS hA ⟨rfl, rfl⟩ rfl [0, 1, 2, 3, 4, 5, 6, 7, 8, 9, 10, 11, 12, 13, 14] [] rfl rfl rfl (by decide) (by decide) hl.1 rfl (Nat.le_of_ble_eq_true rfl) rfl rfl rfl dX9_next_5 (fun H locs hP hD hS => ?_)
  have hP : va_P (dC, dI) vwCl (wMod a0 cy m0) H := hP
  have hD : va_D A (wMod a0 cy m0) := hD
  refine lv_icmp_ne (tgt := 15) hx hb dX9_next_8 (by decide) (fun c8 => ?_) (fun c8 => ?_)
  · replace h := if_f h c8
    refine lv_iload_n hx hb dX9_next_15 rfl (lv_at hl 2 rfl) ?_
    refine lv_iconst (v := 1) hx hb dX9_next_16 (by decide) ?_
    refine lv_iadd hx hb dX9_next_17 ?_
    obtain rfl := Option.some.inj h
    exact hE H locs 18 ls _ hP hD hS rfl dX9_next_18
  replace h := if_t h c8
  refine lv_iconst (v := 0) hx hb dX9_next_11 (by decide) ?_
  refine lv_goto (tgt := 18) hx hb dX9_next_12 (by decide) ?_
  obtain rfl := Option.some.inj h
  exact hE H locs 18 ls _ hP hD hS rfl dX9_next_18
def G_X9_x (m0 : Mod) (p1 : Int32) (p2 : Int32) : Option (Int32) :=
  (rd 85 (m_state m0) ((5 + (20 * p1)) + (2 * p2))).bind fun v14 =>
  some v14
abbrev rm_X9_x : Room := { frames := 0, cells := 0, slots := 0, locals := 0 }
theorem hdS_X9_x : yX9_x.cls ≠ "java/lang/invoke/MethodHandle" ∧ yX9_x.cls ≠ "java/lang/invoke/VarHandle" ∧ (parseMethodDescriptor yX9_x.desc).map (fun d => d.parameters.length) = some 2 := by decide +kernel
theorem hdV_X9_x : yX9_x.cls = RX9 ∧ yX9_x.cls ≠ "java/lang/invoke/MethodHandle" ∧ yX9_x.cls ≠ "java/lang/invoke/VarHandle" ∧ (parseMethodDescriptor yX9_x.desc).map (fun d => d.parameters.length) = some 2 := ⟨rfl, hdS_X9_x⟩
set_option maxHeartbeats 4000000 in
set_option maxRecDepth 100000 in
theorem c_X9_x (l : Launch) (dC : Nat → ClassId) (dI : Nat → Nat → Nat) (cy : Nat → ClassId) (a0 : Nat → Nat) (m0 : Mod) (p1 : Int32) (p2 : Int32) (res : Int32) (h : G_X9_x m0 p1 p2 = some res) : CT l (dC, dI) (TY cy) yX9_x cX9_x 3 (some .int) rm_X9_x [.ref (a0 0), .int p1, .int p2] (wMod a0 cy m0) (wMod a0 cy m0) (some (.int res)) := by
  refine CT.mk_i (own := RX9) ⟨by decide, rfl⟩ (Nat.le_of_ble_eq_true rfl) ?_
  intro p e s mm args below meth cd A Q hx hb hml hown htg hN hK hA hP hD hS hE ls hl
  have hl : lv_has ls 3 [(0, .ref (a0 0)), (1, .int p1), (2, .int p2)] := hl
  replace h : _ = some res := h
  unfold G_X9_x at h
  obtain ⟨H, hH⟩ : ∃ H, H = s.heap := ⟨_, rfl⟩
  obtain ⟨locs, hlocs⟩ : ∃ locs : List Loc, locs = [] := ⟨_, rfl⟩
  rw [← hlocs] at hS ⊢
  have hS : va_S A s.heap H locs := by rw [hH]; exact hS
  rw [← hH] at hP ⊢
  refine lv_aload_n hx hb dX9_x_0 rfl (lv_at hl 0 rfl) ?_
  refine va_get (D := (dC, dI)) (ci := 4) (v := .ref (a0 1)) (C := RX9) (T := TX9) (N := 18) hx hb htg inX9 hown hK hP 0 rfl rfl 1 (by decide) (htg _ gw851) (fun _ h9 => h9) rfl dX9_x_1 ?_
  refine lv_iconst (v := 5) hx hb dX9_x_4 (by decide) ?_
  refine lv_bipush (v := 20) hx hb dX9_x_5 (by decide) ?_
  refine lv_iload_n hx hb dX9_x_7 rfl (lv_at hl 1 rfl) ?_
  refine lv_imul hx hb dX9_x_8 ?_
  refine lv_iadd hx hb dX9_x_9 ?_
  refine lv_iconst (v := 2) hx hb dX9_x_10 (by decide) ?_
  refine lv_iload_n hx hb dX9_x_11 rfl (lv_at hl 2 rfl) ?_
  refine lv_imul hx hb dX9_x_12 ?_
  refine lv_iadd hx hb dX9_x_13 ?_
  obtain ⟨v14, e14, h⟩ := bnd h
  refine x_iald (v := v14) hx hb hK hP 1 0 rfl rfl e14 dX9_x_14 ?_
  obtain rfl := Option.some.inj h
  exact hE H locs 15 ls _ hP hD hS rfl dX9_x_15
def G_X9_y (m0 : Mod) (p1 : Int32) (p2 : Int32) : Option (Int32) :=
  (rd 85 (m_state m0) (((5 + (20 * p1)) + (2 * p2)) + 1)).bind fun v16 =>
  some v16
abbrev rm_X9_y : Room := { frames := 0, cells := 0, slots := 0, locals := 0 }
theorem hdS_X9_y : yX9_y.cls ≠ "java/lang/invoke/MethodHandle" ∧ yX9_y.cls ≠ "java/lang/invoke/VarHandle" ∧ (parseMethodDescriptor yX9_y.desc).map (fun d => d.parameters.length) = some 2 := by decide +kernel
theorem hdV_X9_y : yX9_y.cls = RX9 ∧ yX9_y.cls ≠ "java/lang/invoke/MethodHandle" ∧ yX9_y.cls ≠ "java/lang/invoke/VarHandle" ∧ (parseMethodDescriptor yX9_y.desc).map (fun d => d.parameters.length) = some 2 := ⟨rfl, hdS_X9_y⟩
set_option maxHeartbeats 4000000 in
set_option maxRecDepth 100000 in
theorem c_X9_y (l : Launch) (dC : Nat → ClassId) (dI : Nat → Nat → Nat) (cy : Nat → ClassId) (a0 : Nat → Nat) (m0 : Mod) (p1 : Int32) (p2 : Int32) (res : Int32) (h : G_X9_y m0 p1 p2 = some res) : CT l (dC, dI) (TY cy) yX9_y cX9_y 3 (some .int) rm_X9_y [.ref (a0 0), .int p1, .int p2] (wMod a0 cy m0) (wMod a0 cy m0) (some (.int res)) := by
  refine CT.mk_i (own := RX9) ⟨by decide, rfl⟩ (Nat.le_of_ble_eq_true rfl) ?_
  intro p e s mm args below meth cd A Q hx hb hml hown htg hN hK hA hP hD hS hE ls hl
  have hl : lv_has ls 3 [(0, .ref (a0 0)), (1, .int p1), (2, .int p2)] := hl
  replace h : _ = some res := h
  unfold G_X9_y at h
  obtain ⟨H, hH⟩ : ∃ H, H = s.heap := ⟨_, rfl⟩
  obtain ⟨locs, hlocs⟩ : ∃ locs : List Loc, locs = [] := ⟨_, rfl⟩
  rw [← hlocs] at hS ⊢
  have hS : va_S A s.heap H locs := by rw [hH]; exact hS
  rw [← hH] at hP ⊢
  refine lv_aload_n hx hb dX9_y_0 rfl (lv_at hl 0 rfl) ?_
  refine va_get (D := (dC, dI)) (ci := 4) (v := .ref (a0 1)) (C := RX9) (T := TX9) (N := 18) hx hb htg inX9 hown hK hP 0 rfl rfl 1 (by decide) (htg _ gw851) (fun _ h9 => h9) rfl dX9_y_1 ?_
  refine lv_iconst (v := 5) hx hb dX9_y_4 (by decide) ?_
  refine lv_bipush (v := 20) hx hb dX9_y_5 (by decide) ?_
  refine lv_iload_n hx hb dX9_y_7 rfl (lv_at hl 1 rfl) ?_
  refine lv_imul hx hb dX9_y_8 ?_
  refine lv_iadd hx hb dX9_y_9 ?_
  refine lv_iconst (v := 2) hx hb dX9_y_10 (by decide) ?_
  refine lv_iload_n hx hb dX9_y_11 rfl (lv_at hl 2 rfl) ?_
  refine lv_imul hx hb dX9_y_12 ?_
  refine lv_iadd hx hb dX9_y_13 ?_
  refine lv_iconst (v := 1) hx hb dX9_y_14 (by decide) ?_
  refine lv_iadd hx hb dX9_y_15 ?_
  obtain ⟨v16, e16, h⟩ := bnd h
  refine x_iald (v := v16) hx hb hK hP 1 0 rfl rfl e16 dX9_y_16 ?_
  obtain rfl := Option.some.inj h
  exact hE H locs 17 ls _ hP hD hS rfl dX9_y_17
def G_X9_sumOf_L4  (m0 : Mod) : Nat → Int32 → Int32 → Int32 → Option (Int32)
  | 0, _, _, _ => none
  | n4 + 1, l3_4, l2_4, l1_4 =>
    (G_X9_many m0 l1_4).bind fun v7 =>
    if v7 ≤ l3_4 then
      some l2_4
    else
      (G_X9_next m0 l1_4 l3_4).bind fun v16 =>
      (G_X9_x m0 l1_4 l3_4).bind fun v25 =>
      (G_X9_y m0 l1_4 v16).bind fun v32 =>
      (G_X9_x m0 l1_4 v16).bind fun v40 =>
      (G_X9_y m0 l1_4 l3_4).bind fun v46 =>
      (G_X9_sumOf_L4 m0 n4) (l3_4 + 1) (l2_4 + ((v25 * v32) - (v40 * v46))) l1_4
def G_X9_sumOf (m0 : Mod) (p1 : Int32) : Option (Int32) :=
  G_X9_sumOf_L4 m0 FU 0 0 p1
abbrev rm_X9_sumOf : Room := { frames := 2, cells := 0, slots := 0, locals := 43 }
theorem hdS_X9_sumOf : yX9_sumOf.cls ≠ "java/lang/invoke/MethodHandle" ∧ yX9_sumOf.cls ≠ "java/lang/invoke/VarHandle" ∧ (parseMethodDescriptor yX9_sumOf.desc).map (fun d => d.parameters.length) = some 1 := by decide +kernel
theorem hdV_X9_sumOf : yX9_sumOf.cls = RX9 ∧ yX9_sumOf.cls ≠ "java/lang/invoke/MethodHandle" ∧ yX9_sumOf.cls ≠ "java/lang/invoke/VarHandle" ∧ (parseMethodDescriptor yX9_sumOf.desc).map (fun d => d.parameters.length) = some 1 := ⟨rfl, hdS_X9_sumOf⟩
set_option maxHeartbeats 4000000 in
set_option maxRecDepth 100000 in
theorem c_X9_sumOf (l : Launch) (dC : Nat → ClassId) (dI : Nat → Nat → Nat) (cy : Nat → ClassId) (a0 : Nat → Nat) (m0 : Mod) (p1 : Int32) (res : Int32) (h : G_X9_sumOf m0 p1 = some res) : CT l (dC, dI) (TY cy) yX9_sumOf cX9_sumOf 5 (some .int) rm_X9_sumOf [.ref (a0 0), .int p1] (wMod a0 cy m0) (wMod a0 cy m0) (some (.int res)) := by
  refine CT.mk_i (own := RX9) ⟨by decide, rfl⟩ (Nat.le_of_ble_eq_true rfl) ?_
  intro p e s mm args below meth cd A Q hx hb hml hown htg hN hK hA hP hD hS hE ls hl
  have hl : lv_has ls 5 [(0, .ref (a0 0)), (1, .int p1)] := hl
  replace h : _ = some res := h
  unfold G_X9_sumOf at h
  obtain ⟨H, hH⟩ : ∃ H, H = s.heap := ⟨_, rfl⟩
  obtain ⟨locs, hlocs⟩ : ∃ locs : List Loc, locs = [] := ⟨_, rfl⟩
  rw [← hlocs] at hS ⊢
  have hS : va_S A s.heap H locs := by rw [hH]; exact hS
  rw [← hH] at hP ⊢
  refine lv_iconst (v := 0) hx hb dX9_sumOf_0 (by decide) ?_
  refine lv_istore_n (lv' := [(2, .int 0), (0, .ref (a0 0)), (1, .int p1)]) hx hb dX9_sumOf_1 rfl hl (by decide) rfl (fun ls hl => ?_)
  refine lv_iconst (v := 0) hx hb dX9_sumOf_2 (by decide) ?_
  refine lv_istore_n (lv' := [(3, .int 0), (2, .int 0), (0, .ref (a0 0)), (1, .int p1)]) hx hb dX9_sumOf_3 rfl hl (by decide) rfl (fun ls hl => ?_)
  have hL4 : ∀ (n4 : Nat) (l3_4 : Int32) (l2_4 : Int32) (l1_4 : Int32) (H : Heap) (locs : List Loc) (ls : Array Slot), G_X9_sumOf_L4 m0 n4 l3_4 l2_4 l1_4 = some res → va_P (dC, dI) vwCl (wMod a0 cy m0) H → va_D A (wMod a0 cy m0) → va_S A s.heap H locs → lv_has ls 5 [(3, .int l3_4), (2, .int l2_4), (0, .ref (a0 0)), (1, .int l1_4)] → W p l e rm_X9_sumOf s mm args below meth cd H locs 0 0 Q (F0 mm 4 ls []) := by
    intro n4
    induction n4 with
    | zero => intro l3_4 l2_4 l1_4 H locs ls h; exact absurd h (by simp [G_X9_sumOf_L4])
    | succ n4 ih4 =>
      intro l3_4 l2_4 l1_4 H locs ls h hP hD hS hl
      rw [G_X9_sumOf_L4] at h
      refine lv_iload_n hx hb dX9_sumOf_4 rfl (lv_at hl 0 rfl) ?_
      refine lv_aload_n hx hb dX9_sumOf_5 rfl (lv_at hl 2 rfl) ?_
      refine lv_iload_n hx hb dX9_sumOf_6 rfl (lv_at hl 3 rfl) ?_
      obtain ⟨v7, e7, h⟩ := bnd h
      refine cV (av := [.int l1_4]) (rest := [.int l3_4]) (st1 := [.int v7, .int l3_4]) (k1 := 0) (k2 := 0) (ci := 4) (q0 := 0) hx hb hml hown htg hN hK (c_X9_many l dC dI cy a0 m0 l1_4 v7 e7) (g_V gw935 gw937 gw10 gw63 gw938) hdV_X9_many rfl ⟨⟨Nat.le_of_ble_eq_true rfl, Nat.le_of_ble_eq_true rfl⟩, Nat.le_of_ble_eq_true rfl, Nat.le_of_ble_eq_true rfl⟩ hP hD hS hA ⟨rfl, rfl⟩ rfl [0, 1, 2, 3, 4, 5, 6, 7, 8, 9, 10, 11, 12, 13, 14] [] rfl rfl rfl (by decide) (by decide) hl.1 rfl (Nat.le_of_ble_eq_true rfl) rfl rfl rfl dX9_sumOf_7 (fun H locs hP hD hS => ?_)
      have hP : va_P (dC, dI) vwCl (wMod a0 cy m0) H := hP
      have hD : va_D A (wMod a0 cy m0) := hD
      refine lv_icmp_ge (tgt := 59) hx hb dX9_sumOf_10 (by decide) (fun c10 => ?_) (fun c10 => ?_)
      · replace h := if_t h c10
        refine lv_iload_n hx hb dX9_sumOf_59 rfl (lv_at hl 1 rfl) ?_
        obtain rfl := Option.some.inj h
        exact hE H locs 60 ls _ hP hD hS rfl dX9_sumOf_60
      replace h := if_f h c10
      refine lv_aload_n hx hb dX9_sumOf_13 rfl (lv_at hl 2 rfl) ?_
      refine lv_iload_n hx hb dX9_sumOf_14 rfl (lv_at hl 3 rfl) ?_
      refine lv_iload_n hx hb dX9_sumOf_15 rfl (lv_at hl 0 rfl) ?_
      obtain ⟨v16, e16, h⟩ := bnd h
      refine cV (av := [.int l1_4, .int l3_4]) (rest := []) (st1 := [.int v16]) (k1 := 0) (k2 := 0) (ci := 4) (q0 := 0) hx hb hml hown htg hN hK (c_X9_next l dC dI cy a0 m0 l1_4 l3_4 v16 e16) (g_V gw955 gw957 gw15 gw63 gw958) hdV_X9_next rfl ⟨⟨Nat.le_of_ble_eq_true rfl, Nat.le_of_ble_eq_true rfl⟩, Nat.le_of_ble_eq_true rfl, Nat.le_of_ble_eq_true rfl⟩ hP hD hS hA ⟨rfl, rfl⟩ rfl [0, 1, 2, 3, 4, 5, 6, 7, 8, 9, 10, 11, 12, 13, 14] [] rfl rfl rfl (by decide) (by decide) hl.1 rfl (Nat.le_of_ble_eq_true rfl) rfl rfl rfl dX9_sumOf_16 (fun H locs hP hD hS => ?_)
      have hP : va_P (dC, dI) vwCl (wMod a0 cy m0) H := hP
      have hD : va_D A (wMod a0 cy m0) := hD
      refine lv_istore (lv' := [(4, .int v16), (3, .int l3_4), (2, .int l2_4), (0, .ref (a0 0)), (1, .int l1_4)]) hx hb dX9_sumOf_19 hl (by decide) rfl (fun ls hl => ?_)
      refine lv_iload_n hx hb dX9_sumOf_21 rfl (lv_at hl 2 rfl) ?_
      refine lv_aload_n hx hb dX9_sumOf_22 rfl (lv_at hl 3 rfl) ?_
      refine lv_iload_n hx hb dX9_sumOf_23 rfl (lv_at hl 4 rfl) ?_
      refine lv_iload_n hx hb dX9_sumOf_24 rfl (lv_at hl 1 rfl) ?_
      obtain ⟨v25, e25, h⟩ := bnd h
      refine cV (av := [.int l1_4, .int l3_4]) (rest := [.int l2_4]) (st1 := [.int v25, .int l2_4]) (k1 := 0) (k2 := 0) (ci := 4) (q0 := 0) hx hb hml hown htg hN hK (c_X9_x l dC dI cy a0 m0 l1_4 l3_4 v25 e25) (g_V gw947 gw949 gw13 gw63 gw950) hdV_X9_x rfl ⟨⟨Nat.le_of_ble_eq_true rfl, Nat.le_of_ble_eq_true rfl⟩, Nat.le_of_ble_eq_true rfl, Nat.le_of_ble_eq_true rfl⟩ hP hD hS hA ⟨rfl, rfl⟩ rfl [0, 1, 2, 3, 4, 5, 6, 7, 8, 9, 10, 11, 12, 13, 14] [] rfl rfl rfl (by decide) (by decide) hl.1 rfl (Nat.le_of_ble_eq_true rfl) rfl rfl rfl dX9_sumOf_25 (fun H locs hP hD hS => ?_)
      have hP : va_P (dC, dI) vwCl (wMod a0 cy m0) H := hP
      have hD : va_D A (wMod a0 cy m0) := hD
      refine lv_aload_n hx hb dX9_sumOf_28 rfl (lv_at hl 3 rfl) ?_
      refine lv_iload_n hx hb dX9_sumOf_29 rfl (lv_at hl 4 rfl) ?_
      refine lv_iload hx hb dX9_sumOf_30 (lv_at hl 0 rfl) ?_
      obtain ⟨v32, e32, h⟩ := bnd h
      refine cV (av := [.int l1_4, .int v16]) (rest := [.int v25, .int l2_4]) (st1 := [.int v32, .int v25, .int l2_4]) (k1 := 0) (k2 := 0) (ci := 4) (q0 := 0) hx hb hml hown htg hN hK (c_X9_y l dC dI cy a0 m0 l1_4 v16 v32 e32) (g_V gw951 gw953 gw14 gw63 gw954) hdV_X9_y rfl ⟨⟨Nat.le_of_ble_eq_true rfl, Nat.le_of_ble_eq_true rfl⟩, Nat.le_of_ble_eq_true rfl, Nat.le_of_ble_eq_true rfl⟩ hP hD hS hA ⟨rfl, rfl⟩ rfl [0, 1, 2, 3, 4, 5, 6, 7, 8, 9, 10, 11, 12, 13, 14] [] rfl rfl rfl (by decide) (by decide) hl.1 rfl (Nat.le_of_ble_eq_true rfl) rfl rfl rfl dX9_sumOf_32 (fun H locs hP hD hS => ?_)
      have hP : va_P (dC, dI) vwCl (wMod a0 cy m0) H := hP
      have hD : va_D A (wMod a0 cy m0) := hD
      refine lv_imul hx hb dX9_sumOf_35 ?_
      refine lv_aload_n hx hb dX9_sumOf_36 rfl (lv_at hl 3 rfl) ?_
      refine lv_iload_n hx hb dX9_sumOf_37 rfl (lv_at hl 4 rfl) ?_
      refine lv_iload hx hb dX9_sumOf_38 (lv_at hl 0 rfl) ?_
      obtain ⟨v40, e40, h⟩ := bnd h
      refine cV (av := [.int l1_4, .int v16]) (rest := [.int (v25 * v32), .int l2_4]) (st1 := [.int v40, .int (v25 * v32), .int l2_4]) (k1 := 0) (k2 := 0) (ci := 4) (q0 := 0) hx hb hml hown htg hN hK (c_X9_x l dC dI cy a0 m0 l1_4 v16 v40 e40) (g_V gw947 gw949 gw13 gw63 gw950) hdV_X9_x rfl ⟨⟨Nat.le_of_ble_eq_true rfl, Nat.le_of_ble_eq_true rfl⟩, Nat.le_of_ble_eq_true rfl, Nat.le_of_ble_eq_true rfl⟩ hP hD hS hA ⟨rfl, rfl⟩ rfl [0, 1, 2, 3, 4, 5, 6, 7, 8, 9, 10, 11, 12, 13, 14] [] rfl rfl rfl (by decide) (by decide) hl.1 rfl (Nat.le_of_ble_eq_true rfl) rfl rfl rfl dX9_sumOf_40 (fun H locs hP hD hS => ?_)
      have hP : va_P (dC, dI) vwCl (wMod a0 cy m0) H := hP
      have hD : va_D A (wMod a0 cy m0) := hD
      refine lv_aload_n hx hb dX9_sumOf_43 rfl (lv_at hl 3 rfl) ?_
      refine lv_iload_n hx hb dX9_sumOf_44 rfl (lv_at hl 4 rfl) ?_
      refine lv_iload_n hx hb dX9_sumOf_45 rfl (lv_at hl 1 rfl) ?_
      obtain ⟨v46, e46, h⟩ := bnd h
      refine cV (av := [.int l1_4, .int l3_4]) (rest := [.int v40, .int (v25 * v32), .int l2_4]) (st1 := [.int v46, .int v40, .int (v25 * v32), .int l2_4]) (k1 := 0) (k2 := 0) (ci := 4) (q0 := 0) hx hb hml hown htg hN hK (c_X9_y l dC dI cy a0 m0 l1_4 l3_4 v46 e46) (g_V gw951 gw953 gw14 gw63 gw954) hdV_X9_y rfl ⟨⟨Nat.le_of_ble_eq_true rfl, Nat.le_of_ble_eq_true rfl⟩, Nat.le_of_ble_eq_true rfl, Nat.le_of_ble_eq_true rfl⟩ hP hD hS hA ⟨rfl, rfl⟩ rfl [0, 1, 2, 3, 4, 5, 6, 7, 8, 9, 10, 11, 12, 13, 14] [] rfl rfl rfl (by decide) (by decide) hl.1 rfl (Nat.le_of_ble_eq_true rfl) rfl rfl rfl dX9_sumOf_46 (fun H locs hP hD hS => ?_)
      have hP : va_P (dC, dI) vwCl (wMod a0 cy m0) H := hP
      have hD : va_D A (wMod a0 cy m0) := hD
      refine lv_imul hx hb dX9_sumOf_49 ?_
      refine lv_isub hx hb dX9_sumOf_50 ?_
      refine lv_iadd hx hb dX9_sumOf_51 ?_
      refine lv_istore_n (lv' := [(2, .int (l2_4 + ((v25 * v32) - (v40 * v46)))), (4, .int v16), (3, .int l3_4), (0, .ref (a0 0)), (1, .int l1_4)]) hx hb dX9_sumOf_52 rfl hl (by decide) rfl (fun ls hl => ?_)
      refine lv_iinc (v := l3_4 + 1) (lv' := [(3, .int (l3_4 + 1)), (2, .int (l2_4 + ((v25 * v32) - (v40 * v46)))), (4, .int v16), (0, .ref (a0 0)), (1, .int l1_4)]) hx hb dX9_sumOf_53 hl (k := 2) rfl rfl (by decide) rfl (fun ls hl => ?_)
      refine lv_goto (tgt := 4) hx hb dX9_sumOf_56 (by decide) ?_
      exact ih4 (l3_4 + 1) (l2_4 + ((v25 * v32) - (v40 * v46))) l1_4 H locs ls h hP hD hS (lv_sub hl [0, 1, 3, 4] rfl)
  exact hL4 FU 0 0 p1 H locs ls h hP hD hS (lv_sub hl [0, 1, 2, 3] rfl)
def G_X9_size (p0 : Int32) : Option (Int32) :=
  if 0 ≤ p0 then
    some p0
  else
    some (-p0)
abbrev rm_X9_size : Room := { frames := 0, cells := 0, slots := 0, locals := 0 }
theorem hdS_X9_size : yX9_size.cls ≠ "java/lang/invoke/MethodHandle" ∧ yX9_size.cls ≠ "java/lang/invoke/VarHandle" ∧ (parseMethodDescriptor yX9_size.desc).map (fun d => d.parameters.length) = some 1 := by decide +kernel
set_option maxHeartbeats 4000000 in
set_option maxRecDepth 100000 in
theorem c_X9_size (l : Launch) (dC : Nat → ClassId) (dI : Nat → Nat → Nat) (cy : Nat → ClassId)  (p0 : Int32) (res : Int32) (h : G_X9_size p0 = some res) : CT l (dC, dI) (TY cy) yX9_size cX9_size 1 (some .int) rm_X9_size [.int p0] ([]) ([]) (some (.int res)) := by
  refine CT.mk_i (own := RX9) ⟨by decide, rfl⟩ (Nat.le_of_ble_eq_true rfl) ?_
  intro p e s mm args below meth cd A Q hx hb hml hown htg hN hK hA hP hD hS hE ls hl
  have hl : lv_has ls 1 [(0, .int p0)] := hl
  replace h : _ = some res := h
  unfold G_X9_size at h
  obtain ⟨H, hH⟩ : ∃ H, H = s.heap := ⟨_, rfl⟩
  obtain ⟨locs, hlocs⟩ : ∃ locs : List Loc, locs = [] := ⟨_, rfl⟩
  rw [← hlocs] at hS ⊢
  have hS : va_S A s.heap H locs := by rw [hH]; exact hS
  rw [← hH] at hP ⊢
  refine lv_iload_n hx hb dX9_size_0 rfl (lv_at hl 0 rfl) ?_
  refine lv_if_ge (tgt := 9) hx hb dX9_size_1 (by decide) (fun c1 => ?_) (fun c1 => ?_)
  · replace h := if_t h c1
    refine lv_iload_n hx hb dX9_size_9 rfl (lv_at hl 0 rfl) ?_
    obtain rfl := Option.some.inj h
    exact hE H locs 10 ls _ hP hD hS rfl dX9_size_10
  replace h := if_f h c1
  refine lv_iload_n hx hb dX9_size_4 rfl (lv_at hl 0 rfl) ?_
  refine lv_ineg hx hb dX9_size_5 ?_
  refine lv_goto (tgt := 10) hx hb dX9_size_6 (by decide) ?_
  obtain rfl := Option.some.inj h
  exact hE H locs 10 ls _ hP hD hS rfl dX9_size_10
def G_X9_area_L11  (m0 : Mod) : Nat → Int32 → Int32 → Option (Int32)
  | 0, _, _ => none
  | n11 + 1, l2_11, l1_11 =>
    (rd 85 (m_state m0) 0).bind fun v17 =>
    if v17 ≤ l2_11 then
      some l1_11
    else
      (G_X9_sumOf m0 l2_11).bind fun v24 =>
      (G_X9_size v24).bind fun v27 =>
      (G_X9_area_L11 m0 n11) (l2_11 + 1) (l1_11 - v27)
def G_X9_area (m0 : Mod) : Option (Int32) :=
  (G_X9_sumOf m0 0).bind fun v2 =>
  (G_X9_size v2).bind fun v5 =>
  G_X9_area_L11 m0 FU 1 v5
abbrev rm_X9_area : Room := { frames := 3, cells := 0, slots := 0, locals := 67 }
theorem hdS_X9_area : yX9_area.cls ≠ "java/lang/invoke/MethodHandle" ∧ yX9_area.cls ≠ "java/lang/invoke/VarHandle" ∧ (parseMethodDescriptor yX9_area.desc).map (fun d => d.parameters.length) = some 0 := by decide +kernel
theorem hdV_X9_area : yX9_area.cls = RX9 ∧ yX9_area.cls ≠ "java/lang/invoke/MethodHandle" ∧ yX9_area.cls ≠ "java/lang/invoke/VarHandle" ∧ (parseMethodDescriptor yX9_area.desc).map (fun d => d.parameters.length) = some 0 := ⟨rfl, hdS_X9_area⟩
set_option maxHeartbeats 4000000 in
set_option maxRecDepth 100000 in
theorem c_X9_area (l : Launch) (dC : Nat → ClassId) (dI : Nat → Nat → Nat) (cy : Nat → ClassId) (a0 : Nat → Nat) (m0 : Mod) (res : Int32) (h : G_X9_area m0 = some res) : CT l (dC, dI) (TY cy) yX9_area cX9_area 3 (some .int) rm_X9_area [.ref (a0 0)] (wMod a0 cy m0) (wMod a0 cy m0) (some (.int res)) := by
  refine CT.mk_i (own := RX9) ⟨by decide, rfl⟩ (Nat.le_of_ble_eq_true rfl) ?_
  intro p e s mm args below meth cd A Q hx hb hml hown htg hN hK hA hP hD hS hE ls hl
  have hl : lv_has ls 3 [(0, .ref (a0 0))] := hl
  replace h : _ = some res := h
  unfold G_X9_area at h
  obtain ⟨H, hH⟩ : ∃ H, H = s.heap := ⟨_, rfl⟩
  obtain ⟨locs, hlocs⟩ : ∃ locs : List Loc, locs = [] := ⟨_, rfl⟩
  rw [← hlocs] at hS ⊢
  have hS : va_S A s.heap H locs := by rw [hH]; exact hS
  rw [← hH] at hP ⊢
  refine lv_aload_n hx hb dX9_area_0 rfl (lv_at hl 0 rfl) ?_
  refine lv_iconst (v := 0) hx hb dX9_area_1 (by decide) ?_
  obtain ⟨v2, e2, h⟩ := bnd h
  refine cV (av := [.int 0]) (rest := []) (st1 := [.int v2]) (k1 := 0) (k2 := 0) (ci := 4) (q0 := 0) hx hb hml hown htg hN hK (c_X9_sumOf l dC dI cy a0 m0 0 v2 e2) (g_V gw1008 gw1010 gw24 gw63 gw1011) hdV_X9_sumOf rfl ⟨⟨Nat.le_of_ble_eq_true rfl, Nat.le_of_ble_eq_true rfl⟩, Nat.le_of_ble_eq_true rfl, Nat.le_of_ble_eq_true rfl⟩ hP hD hS hA ⟨rfl, rfl⟩ rfl [0, 1, 2, 3, 4, 5, 6, 7, 8, 9, 10, 11, 12, 13, 14] [] rfl rfl rfl (by decide) (by decide) hl.1 rfl (Nat.le_of_ble_eq_true rfl) rfl rfl rfl dX9_area_2 (fun H locs hP hD hS => ?_)
  have hP : va_P (dC, dI) vwCl (wMod a0 cy m0) H := hP
  have hD : va_D A (wMod a0 cy m0) := hD
  obtain ⟨v5, e5, h⟩ := bnd h
  refine cS (av := [.int v2]) (rest := []) (st1 := [.int v5]) (k1 := 0) (k2 := 0) hx hb hml hown htg hN hK (c_X9_size l dC dI cy   v2 v5 e5) (g_S gw1012 gw1013 gw63 gw1014) hdS_X9_size rfl ⟨⟨Nat.le_of_ble_eq_true rfl, Nat.le_of_ble_eq_true rfl⟩, Nat.le_of_ble_eq_true rfl, Nat.le_of_ble_eq_true rfl⟩ hP hD hS hA [] [0, 1, 2, 3, 4, 5, 6, 7, 8, 9, 10, 11, 12, 13, 14] rfl rfl rfl (by decide) (by decide) hl.1 rfl (Nat.le_of_ble_eq_true rfl) rfl rfl rfl dX9_area_5 (fun H locs hP hD hS => ?_)
  obtain ⟨hP, hD⟩ := x_perm (ws' := wMod a0 cy m0) hP hD [0, 1, 2, 3, 4, 5, 6, 7, 8, 9, 10, 11, 12, 13, 14] (by decide) rfl rfl
  refine lv_istore_n (lv' := [(1, .int v5), (0, .ref (a0 0))]) hx hb dX9_area_8 rfl hl (by decide) rfl (fun ls hl => ?_)
  refine lv_iconst (v := 1) hx hb dX9_area_9 (by decide) ?_
  refine lv_istore_n (lv' := [(2, .int 1), (1, .int v5), (0, .ref (a0 0))]) hx hb dX9_area_10 rfl hl (by decide) rfl (fun ls hl => ?_)
  have hL11 : ∀ (n11 : Nat) (l2_11 : Int32) (l1_11 : Int32) (H : Heap) (locs : List Loc) (ls : Array Slot), G_X9_area_L11 m0 n11 l2_11 l1_11 = some res → va_P (dC, dI) vwCl (wMod a0 cy m0) H → va_D A (wMod a0 cy m0) → va_S A s.heap H locs → lv_has ls 3 [(2, .int l2_11), (1, .int l1_11), (0, .ref (a0 0))] → W p l e rm_X9_area s mm args below meth cd H locs 0 0 Q (F0 mm 11 ls []) := by
    intro n11
    induction n11 with
    | zero => intro l2_11 l1_11 H locs ls h; exact absurd h (by simp [G_X9_area_L11])
    | succ n11 ih11 =>
      intro l2_11 l1_11 H locs ls h hP hD hS hl
      rw [G_X9_area_L11] at h
      refine lv_iload_n hx hb dX9_area_11 rfl (lv_at hl 0 rfl) ?_
      refine lv_aload_n hx hb dX9_area_12 rfl (lv_at hl 2 rfl) ?_
      refine va_get (D := (dC, dI)) (ci := 4) (v := .ref (a0 1)) (C := RX9) (T := TX9) (N := 18) hx hb htg inX9 hown hK hP 0 rfl rfl 1 (by decide) (htg _ gw851) (fun _ h9 => h9) rfl dX9_area_13 ?_
      refine lv_iconst (v := 0) hx hb dX9_area_16 (by decide) ?_
      obtain ⟨v17, e17, h⟩ := bnd h
      refine x_iald (v := v17) hx hb hK hP 1 0 rfl rfl e17 dX9_area_17 ?_
      refine lv_icmp_ge (tgt := 38) hx hb dX9_area_18 (by decide) (fun c18 => ?_) (fun c18 => ?_)
      · replace h := if_t h c18
        refine lv_iload_n hx hb dX9_area_38 rfl (lv_at hl 1 rfl) ?_
        obtain rfl := Option.some.inj h
        exact hE H locs 39 ls _ hP hD hS rfl dX9_area_39
      replace h := if_f h c18
      refine lv_iload_n hx hb dX9_area_21 rfl (lv_at hl 1 rfl) ?_
      refine lv_aload_n hx hb dX9_area_22 rfl (lv_at hl 2 rfl) ?_
      refine lv_iload_n hx hb dX9_area_23 rfl (lv_at hl 0 rfl) ?_
      obtain ⟨v24, e24, h⟩ := bnd h
      refine cV (av := [.int l2_11]) (rest := [.int l1_11]) (st1 := [.int v24, .int l1_11]) (k1 := 0) (k2 := 0) (ci := 4) (q0 := 0) hx hb hml hown htg hN hK (c_X9_sumOf l dC dI cy a0 m0 l2_11 v24 e24) (g_V gw1008 gw1010 gw24 gw63 gw1011) hdV_X9_sumOf rfl ⟨⟨Nat.le_of_ble_eq_true rfl, Nat.le_of_ble_eq_true rfl⟩, Nat.le_of_ble_eq_true rfl, Nat.le_of_ble_eq_true rfl⟩ hP hD hS hA ⟨rfl, rfl⟩ rfl [0, 1, 2, 3, 4, 5, 6, 7, 8, 9, 10, 11, 12, 13, 14] [] rfl rfl rfl (by decide) (by decide) hl.1 rfl (Nat.le_of_ble_eq_true rfl) rfl rfl rfl dX9_area_24 (fun H locs hP hD hS => ?_)
      have hP : va_P (dC, dI) vwCl (wMod a0 cy m0) H := hP
      have hD : va_D A (wMod a0 cy m0) := hD
      obtain ⟨v27, e27, h⟩ := bnd h
      refine cS (av := [.int v24]) (rest := [.int l1_11]) (st1 := [.int v27, .int l1_11]) (k1 := 0) (k2 := 0) hx hb hml hown htg hN hK (c_X9_size l dC dI cy   v24 v27 e27) (g_S gw1012 gw1013 gw63 gw1014) hdS_X9_size rfl ⟨⟨Nat.le_of_ble_eq_true rfl, Nat.le_of_ble_eq_true rfl⟩, Nat.le_of_ble_eq_true rfl, Nat.le_of_ble_eq_true rfl⟩ hP hD hS hA [] [0, 1, 2, 3, 4, 5, 6, 7, 8, 9, 10, 11, 12, 13, 14] rfl rfl rfl (by decide) (by decide) hl.1 rfl (Nat.le_of_ble_eq_true rfl) rfl rfl rfl dX9_area_27 (fun H locs hP hD hS => ?_)
      obtain ⟨hP, hD⟩ := x_perm (ws' := wMod a0 cy m0) hP hD [0, 1, 2, 3, 4, 5, 6, 7, 8, 9, 10, 11, 12, 13, 14] (by decide) rfl rfl
      refine lv_isub hx hb dX9_area_30 ?_
      refine lv_istore_n (lv' := [(1, .int (l1_11 - v27)), (2, .int l2_11), (0, .ref (a0 0))]) hx hb dX9_area_31 rfl hl (by decide) rfl (fun ls hl => ?_)
      refine lv_iinc (v := l2_11 + 1) (lv' := [(2, .int (l2_11 + 1)), (1, .int (l1_11 - v27)), (0, .ref (a0 0))]) hx hb dX9_area_32 hl (k := 1) rfl rfl (by decide) rfl (fun ls hl => ?_)
      refine lv_goto (tgt := 11) hx hb dX9_area_35 (by decide) ?_
      exact ih11 (l2_11 + 1) (l1_11 - v27) H locs ls h hP hD hS (lv_sub hl [0, 1, 2] rfl)
  exact hL11 FU 1 v5 H locs ls h hP hD hS (lv_sub hl [0, 1, 2] rfl)
def G_X9_divisor_L10   : Nat → Int32 → Int32 → Option (Int32)
  | 0, _, _ => none
  | n10 + 1, l3_10, l2_10 =>
    if l3_10 ≤ 0 then
      some l2_10
    else
      (rmI l2_10 l3_10).bind fun v16 =>
      (G_X9_divisor_L10 n10) v16 l3_10
def G_X9_divisor (p0 : Int32) (p1 : Int32) : Option (Int32) :=
  (G_X9_size p0).bind fun v1 =>
  (G_X9_size p1).bind fun v6 =>
  G_X9_divisor_L10 FU v6 v1
abbrev rm_X9_divisor : Room := { frames := 1, cells := 0, slots := 0, locals := 20 }
theorem hdS_X9_divisor : yX9_divisor.cls ≠ "java/lang/invoke/MethodHandle" ∧ yX9_divisor.cls ≠ "java/lang/invoke/VarHandle" ∧ (parseMethodDescriptor yX9_divisor.desc).map (fun d => d.parameters.length) = some 2 := by decide +kernel
set_option maxHeartbeats 4000000 in
set_option maxRecDepth 100000 in
theorem c_X9_divisor (l : Launch) (dC : Nat → ClassId) (dI : Nat → Nat → Nat) (cy : Nat → ClassId)  (p0 : Int32) (p1 : Int32) (res : Int32) (h : G_X9_divisor p0 p1 = some res) : CT l (dC, dI) (TY cy) yX9_divisor cX9_divisor 5 (some .int) rm_X9_divisor [.int p0, .int p1] ([]) ([]) (some (.int res)) := by
  refine CT.mk_i (own := RX9) ⟨by decide, rfl⟩ (Nat.le_of_ble_eq_true rfl) ?_
  intro p e s mm args below meth cd A Q hx hb hml hown htg hN hK hA hP hD hS hE ls hl
  have hl : lv_has ls 5 [(0, .int p0), (1, .int p1)] := hl
  replace h : _ = some res := h
  unfold G_X9_divisor at h
  obtain ⟨H, hH⟩ : ∃ H, H = s.heap := ⟨_, rfl⟩
  obtain ⟨locs, hlocs⟩ : ∃ locs : List Loc, locs = [] := ⟨_, rfl⟩
  rw [← hlocs] at hS ⊢
  have hS : va_S A s.heap H locs := by rw [hH]; exact hS
  rw [← hH] at hP ⊢
  refine lv_iload_n hx hb dX9_divisor_0 rfl (lv_at hl 0 rfl) ?_
  obtain ⟨v1, e1, h⟩ := bnd h
  refine cS (av := [.int p0]) (rest := []) (st1 := [.int v1]) (k1 := 0) (k2 := 0) hx hb hml hown htg hN hK (c_X9_size l dC dI cy   p0 v1 e1) (g_S gw1012 gw1013 gw63 gw1014) hdS_X9_size rfl ⟨⟨Nat.le_of_ble_eq_true rfl, Nat.le_of_ble_eq_true rfl⟩, Nat.le_of_ble_eq_true rfl, Nat.le_of_ble_eq_true rfl⟩ hP hD hS hA [] [] rfl rfl rfl (by decide) (by decide) hl.1 rfl (Nat.le_of_ble_eq_true rfl) rfl rfl rfl dX9_divisor_1 (fun H locs hP hD hS => ?_)
  have hP : va_P (dC, dI) vwCl ([]) H := hP
  have hD : va_D A ([]) := hD
  refine lv_istore_n (lv' := [(2, .int v1), (0, .int p0), (1, .int p1)]) hx hb dX9_divisor_4 rfl hl (by decide) rfl (fun ls hl => ?_)
  refine lv_iload_n hx hb dX9_divisor_5 rfl (lv_at hl 2 rfl) ?_
  obtain ⟨v6, e6, h⟩ := bnd h
  refine cS (av := [.int p1]) (rest := []) (st1 := [.int v6]) (k1 := 0) (k2 := 0) hx hb hml hown htg hN hK (c_X9_size l dC dI cy   p1 v6 e6) (g_S gw1012 gw1013 gw63 gw1014) hdS_X9_size rfl ⟨⟨Nat.le_of_ble_eq_true rfl, Nat.le_of_ble_eq_true rfl⟩, Nat.le_of_ble_eq_true rfl, Nat.le_of_ble_eq_true rfl⟩ hP hD hS hA [] [] rfl rfl rfl (by decide) (by decide) hl.1 rfl (Nat.le_of_ble_eq_true rfl) rfl rfl rfl dX9_divisor_6 (fun H locs hP hD hS => ?_)
  have hP : va_P (dC, dI) vwCl ([]) H := hP
  have hD : va_D A ([]) := hD
  refine lv_istore_n (lv' := [(3, .int v6), (2, .int v1), (0, .int p0), (1, .int p1)]) hx hb dX9_divisor_9 rfl hl (by decide) rfl (fun ls hl => ?_)
  have hL10 : ∀ (n10 : Nat) (l3_10 : Int32) (l2_10 : Int32) (H : Heap) (locs : List Loc) (ls : Array Slot), G_X9_divisor_L10 n10 l3_10 l2_10 = some res → va_P (dC, dI) vwCl ([]) H → va_D A ([]) → va_S A s.heap H locs → lv_has ls 5 [(3, .int l3_10), (2, .int l2_10)] → W p l e rm_X9_divisor s mm args below meth cd H locs 0 0 Q (F0 mm 10 ls []) := by
    intro n10
    induction n10 with
    | zero => intro l3_10 l2_10 H locs ls h; exact absurd h (by simp [G_X9_divisor_L10])
    | succ n10 ih10 =>
      intro l3_10 l2_10 H locs ls h hP hD hS hl
      rw [G_X9_divisor_L10] at h
      refine lv_iload_n hx hb dX9_divisor_10 rfl (lv_at hl 0 rfl) ?_
      refine lv_if_le (tgt := 27) hx hb dX9_divisor_11 (by decide) (fun c11 => ?_) (fun c11 => ?_)
      · replace h := if_t h c11
        refine lv_iload_n hx hb dX9_divisor_27 rfl (lv_at hl 1 rfl) ?_
        obtain rfl := Option.some.inj h
        exact hE H locs 28 ls _ hP hD hS rfl dX9_divisor_28
      replace h := if_f h c11
      refine lv_iload_n hx hb dX9_divisor_14 rfl (lv_at hl 1 rfl) ?_
      refine lv_iload_n hx hb dX9_divisor_15 rfl (lv_at hl 0 rfl) ?_
      obtain ⟨v16, e16, h⟩ := bnd h
      refine x_irem hx hb e16 dX9_divisor_16 ?_
      refine lv_istore (lv' := [(4, .int v16), (3, .int l3_10), (2, .int l2_10)]) hx hb dX9_divisor_17 hl (by decide) rfl (fun ls hl => ?_)
      refine lv_iload_n hx hb dX9_divisor_19 rfl (lv_at hl 1 rfl) ?_
      refine lv_istore_n (lv' := [(2, .int l3_10), (4, .int v16), (3, .int l3_10)]) hx hb dX9_divisor_20 rfl hl (by decide) rfl (fun ls hl => ?_)
      refine lv_iload hx hb dX9_divisor_21 (lv_at hl 1 rfl) ?_
      refine lv_istore_n (lv' := [(3, .int v16), (2, .int l3_10), (4, .int v16)]) hx hb dX9_divisor_23 rfl hl (by decide) rfl (fun ls hl => ?_)
      refine lv_goto (tgt := 10) hx hb dX9_divisor_24 (by decide) ?_
      exact ih10 v16 l3_10 H locs ls h hP hD hS (lv_sub hl [0, 1] rfl)
  exact hL10 FU v6 v1 H locs ls h hP hD hS (lv_sub hl [0, 1] rfl)
def G_X9_pointsOf (m0 : Mod) (p1 : Int32) (p2 : Int32) : Option (Int32) :=
  (G_X9_next m0 p1 p2).bind fun v3 =>
  (G_X9_x m0 p1 v3).bind fun v10 =>
  (G_X9_x m0 p1 p2).bind fun v16 =>
  (G_X9_y m0 p1 v3).bind fun v23 =>
  (G_X9_y m0 p1 p2).bind fun v29 =>
  (G_X9_divisor (v10 - v16) (v23 - v29)).bind fun v33 =>
  some v33
abbrev rm_X9_pointsOf : Room := { frames := 2, cells := 0, slots := 0, locals := 44 }
theorem hdS_X9_pointsOf : yX9_pointsOf.cls ≠ "java/lang/invoke/MethodHandle" ∧ yX9_pointsOf.cls ≠ "java/lang/invoke/VarHandle" ∧ (parseMethodDescriptor yX9_pointsOf.desc).map (fun d => d.parameters.length) = some 2 := by decide +kernel
theorem hdV_X9_pointsOf : yX9_pointsOf.cls = RX9 ∧ yX9_pointsOf.cls ≠ "java/lang/invoke/MethodHandle" ∧ yX9_pointsOf.cls ≠ "java/lang/invoke/VarHandle" ∧ (parseMethodDescriptor yX9_pointsOf.desc).map (fun d => d.parameters.length) = some 2 := ⟨rfl, hdS_X9_pointsOf⟩
set_option maxHeartbeats 4000000 in
set_option maxRecDepth 100000 in
theorem c_X9_pointsOf (l : Launch) (dC : Nat → ClassId) (dI : Nat → Nat → Nat) (cy : Nat → ClassId) (a0 : Nat → Nat) (m0 : Mod) (p1 : Int32) (p2 : Int32) (res : Int32) (h : G_X9_pointsOf m0 p1 p2 = some res) : CT l (dC, dI) (TY cy) yX9_pointsOf cX9_pointsOf 4 (some .int) rm_X9_pointsOf [.ref (a0 0), .int p1, .int p2] (wMod a0 cy m0) (wMod a0 cy m0) (some (.int res)) := by
  refine CT.mk_i (own := RX9) ⟨by decide, rfl⟩ (Nat.le_of_ble_eq_true rfl) ?_
  intro p e s mm args below meth cd A Q hx hb hml hown htg hN hK hA hP hD hS hE ls hl
  have hl : lv_has ls 4 [(0, .ref (a0 0)), (1, .int p1), (2, .int p2)] := hl
  replace h : _ = some res := h
  unfold G_X9_pointsOf at h
  obtain ⟨H, hH⟩ : ∃ H, H = s.heap := ⟨_, rfl⟩
  obtain ⟨locs, hlocs⟩ : ∃ locs : List Loc, locs = [] := ⟨_, rfl⟩
  rw [← hlocs] at hS ⊢
  have hS : va_S A s.heap H locs := by rw [hH]; exact hS
  rw [← hH] at hP ⊢
  refine lv_aload_n hx hb dX9_pointsOf_0 rfl (lv_at hl 0 rfl) ?_
  refine lv_iload_n hx hb dX9_pointsOf_1 rfl (lv_at hl 1 rfl) ?_
  refine lv_iload_n hx hb dX9_pointsOf_2 rfl (lv_at hl 2 rfl) ?_
  obtain ⟨v3, e3, h⟩ := bnd h
  refine cV (av := [.int p1, .int p2]) (rest := []) (st1 := [.int v3]) (k1 := 0) (k2 := 0) (ci := 4) (q0 := 0) hx hb hml hown htg hN hK (c_X9_next l dC dI cy a0 m0 p1 p2 v3 e3) (g_V gw955 gw957 gw15 gw63 gw958) hdV_X9_next rfl ⟨⟨Nat.le_of_ble_eq_true rfl, Nat.le_of_ble_eq_true rfl⟩, Nat.le_of_ble_eq_true rfl, Nat.le_of_ble_eq_true rfl⟩ hP hD hS hA ⟨rfl, rfl⟩ rfl [0, 1, 2, 3, 4, 5, 6, 7, 8, 9, 10, 11, 12, 13, 14] [] rfl rfl rfl (by decide) (by decide) hl.1 rfl (Nat.le_of_ble_eq_true rfl) rfl rfl rfl dX9_pointsOf_3 (fun H locs hP hD hS => ?_)
  have hP : va_P (dC, dI) vwCl (wMod a0 cy m0) H := hP
  have hD : va_D A (wMod a0 cy m0) := hD
  refine lv_istore_n (lv' := [(3, .int v3), (0, .ref (a0 0)), (1, .int p1), (2, .int p2)]) hx hb dX9_pointsOf_6 rfl hl (by decide) rfl (fun ls hl => ?_)
  refine lv_aload_n hx hb dX9_pointsOf_7 rfl (lv_at hl 1 rfl) ?_
  refine lv_iload_n hx hb dX9_pointsOf_8 rfl (lv_at hl 2 rfl) ?_
  refine lv_iload_n hx hb dX9_pointsOf_9 rfl (lv_at hl 0 rfl) ?_
  obtain ⟨v10, e10, h⟩ := bnd h
  refine cV (av := [.int p1, .int v3]) (rest := []) (st1 := [.int v10]) (k1 := 0) (k2 := 0) (ci := 4) (q0 := 0) hx hb hml hown htg hN hK (c_X9_x l dC dI cy a0 m0 p1 v3 v10 e10) (g_V gw947 gw949 gw13 gw63 gw950) hdV_X9_x rfl ⟨⟨Nat.le_of_ble_eq_true rfl, Nat.le_of_ble_eq_true rfl⟩, Nat.le_of_ble_eq_true rfl, Nat.le_of_ble_eq_true rfl⟩ hP hD hS hA ⟨rfl, rfl⟩ rfl [0, 1, 2, 3, 4, 5, 6, 7, 8, 9, 10, 11, 12, 13, 14] [] rfl rfl rfl (by decide) (by decide) hl.1 rfl (Nat.le_of_ble_eq_true rfl) rfl rfl rfl dX9_pointsOf_10 (fun H locs hP hD hS => ?_)
  have hP : va_P (dC, dI) vwCl (wMod a0 cy m0) H := hP
  have hD : va_D A (wMod a0 cy m0) := hD
  refine lv_aload_n hx hb dX9_pointsOf_13 rfl (lv_at hl 1 rfl) ?_
  refine lv_iload_n hx hb dX9_pointsOf_14 rfl (lv_at hl 2 rfl) ?_
  refine lv_iload_n hx hb dX9_pointsOf_15 rfl (lv_at hl 3 rfl) ?_
  obtain ⟨v16, e16, h⟩ := bnd h
  refine cV (av := [.int p1, .int p2]) (rest := [.int v10]) (st1 := [.int v16, .int v10]) (k1 := 0) (k2 := 0) (ci := 4) (q0 := 0) hx hb hml hown htg hN hK (c_X9_x l dC dI cy a0 m0 p1 p2 v16 e16) (g_V gw947 gw949 gw13 gw63 gw950) hdV_X9_x rfl ⟨⟨Nat.le_of_ble_eq_true rfl, Nat.le_of_ble_eq_true rfl⟩, Nat.le_of_ble_eq_true rfl, Nat.le_of_ble_eq_true rfl⟩ hP hD hS hA ⟨rfl, rfl⟩ rfl [0, 1, 2, 3, 4, 5, 6, 7, 8, 9, 10, 11, 12, 13, 14] [] rfl rfl rfl (by decide) (by decide) hl.1 rfl (Nat.le_of_ble_eq_true rfl) rfl rfl rfl dX9_pointsOf_16 (fun H locs hP hD hS => ?_)
  have hP : va_P (dC, dI) vwCl (wMod a0 cy m0) H := hP
  have hD : va_D A (wMod a0 cy m0) := hD
  refine lv_isub hx hb dX9_pointsOf_19 ?_
  refine lv_aload_n hx hb dX9_pointsOf_20 rfl (lv_at hl 1 rfl) ?_
  refine lv_iload_n hx hb dX9_pointsOf_21 rfl (lv_at hl 2 rfl) ?_
  refine lv_iload_n hx hb dX9_pointsOf_22 rfl (lv_at hl 0 rfl) ?_
  obtain ⟨v23, e23, h⟩ := bnd h
  refine cV (av := [.int p1, .int v3]) (rest := [.int (v10 - v16)]) (st1 := [.int v23, .int (v10 - v16)]) (k1 := 0) (k2 := 0) (ci := 4) (q0 := 0) hx hb hml hown htg hN hK (c_X9_y l dC dI cy a0 m0 p1 v3 v23 e23) (g_V gw951 gw953 gw14 gw63 gw954) hdV_X9_y rfl ⟨⟨Nat.le_of_ble_eq_true rfl, Nat.le_of_ble_eq_true rfl⟩, Nat.le_of_ble_eq_true rfl, Nat.le_of_ble_eq_true rfl⟩ hP hD hS hA ⟨rfl, rfl⟩ rfl [0, 1, 2, 3, 4, 5, 6, 7, 8, 9, 10, 11, 12, 13, 14] [] rfl rfl rfl (by decide) (by decide) hl.1 rfl (Nat.le_of_ble_eq_true rfl) rfl rfl rfl dX9_pointsOf_23 (fun H locs hP hD hS => ?_)
  have hP : va_P (dC, dI) vwCl (wMod a0 cy m0) H := hP
  have hD : va_D A (wMod a0 cy m0) := hD
  refine lv_aload_n hx hb dX9_pointsOf_26 rfl (lv_at hl 1 rfl) ?_
  refine lv_iload_n hx hb dX9_pointsOf_27 rfl (lv_at hl 2 rfl) ?_
  refine lv_iload_n hx hb dX9_pointsOf_28 rfl (lv_at hl 3 rfl) ?_
  obtain ⟨v29, e29, h⟩ := bnd h
  refine cV (av := [.int p1, .int p2]) (rest := [.int v23, .int (v10 - v16)]) (st1 := [.int v29, .int v23, .int (v10 - v16)]) (k1 := 0) (k2 := 0) (ci := 4) (q0 := 0) hx hb hml hown htg hN hK (c_X9_y l dC dI cy a0 m0 p1 p2 v29 e29) (g_V gw951 gw953 gw14 gw63 gw954) hdV_X9_y rfl ⟨⟨Nat.le_of_ble_eq_true rfl, Nat.le_of_ble_eq_true rfl⟩, Nat.le_of_ble_eq_true rfl, Nat.le_of_ble_eq_true rfl⟩ hP hD hS hA ⟨rfl, rfl⟩ rfl [0, 1, 2, 3, 4, 5, 6, 7, 8, 9, 10, 11, 12, 13, 14] [] rfl rfl rfl (by decide) (by decide) hl.1 rfl (Nat.le_of_ble_eq_true rfl) rfl rfl rfl dX9_pointsOf_29 (fun H locs hP hD hS => ?_)
  have hP : va_P (dC, dI) vwCl (wMod a0 cy m0) H := hP
  have hD : va_D A (wMod a0 cy m0) := hD
  refine lv_isub hx hb dX9_pointsOf_32 ?_
  obtain ⟨v33, e33, h⟩ := bnd h
  refine cS (av := [.int (v10 - v16), .int (v23 - v29)]) (rest := []) (st1 := [.int v33]) (k1 := 0) (k2 := 0) hx hb hml hown htg hN hK (c_X9_divisor l dC dI cy   (v10 - v16) (v23 - v29) v33 e33) (g_S gw1023 gw1024 gw63 gw1025) hdS_X9_divisor rfl ⟨⟨Nat.le_of_ble_eq_true rfl, Nat.le_of_ble_eq_true rfl⟩, Nat.le_of_ble_eq_true rfl, Nat.le_of_ble_eq_true rfl⟩ hP hD hS hA [] [0, 1, 2, 3, 4, 5, 6, 7, 8, 9, 10, 11, 12, 13, 14] rfl rfl rfl (by decide) (by decide) hl.1 rfl (Nat.le_of_ble_eq_true rfl) rfl rfl rfl dX9_pointsOf_33 (fun H locs hP hD hS => ?_)
  obtain ⟨hP, hD⟩ := x_perm (ws' := wMod a0 cy m0) hP hD [0, 1, 2, 3, 4, 5, 6, 7, 8, 9, 10, 11, 12, 13, 14] (by decide) rfl rfl
  obtain rfl := Option.some.inj h
  exact hE H locs 36 ls _ hP hD hS rfl dX9_pointsOf_36
def G_X9_ringPoints_L4  (m0 : Mod) : Nat → Int32 → Int32 → Int32 → Option (Int32)
  | 0, _, _, _ => none
  | n4 + 1, l3_4, l2_4, l1_4 =>
    (G_X9_many m0 l1_4).bind fun v7 =>
    if v7 ≤ l3_4 then
      some l2_4
    else
      (G_X9_pointsOf m0 l1_4 l3_4).bind fun v17 =>
      (G_X9_ringPoints_L4 m0 n4) (l3_4 + 1) (l2_4 + v17) l1_4
def G_X9_ringPoints (m0 : Mod) (p1 : Int32) : Option (Int32) :=
  G_X9_ringPoints_L4 m0 FU 0 0 p1
abbrev rm_X9_ringPoints : Room := { frames := 3, cells := 0, slots := 0, locals := 67 }
theorem hdS_X9_ringPoints : yX9_ringPoints.cls ≠ "java/lang/invoke/MethodHandle" ∧ yX9_ringPoints.cls ≠ "java/lang/invoke/VarHandle" ∧ (parseMethodDescriptor yX9_ringPoints.desc).map (fun d => d.parameters.length) = some 1 := by decide +kernel
theorem hdV_X9_ringPoints : yX9_ringPoints.cls = RX9 ∧ yX9_ringPoints.cls ≠ "java/lang/invoke/MethodHandle" ∧ yX9_ringPoints.cls ≠ "java/lang/invoke/VarHandle" ∧ (parseMethodDescriptor yX9_ringPoints.desc).map (fun d => d.parameters.length) = some 1 := ⟨rfl, hdS_X9_ringPoints⟩
set_option maxHeartbeats 4000000 in
set_option maxRecDepth 100000 in
theorem c_X9_ringPoints (l : Launch) (dC : Nat → ClassId) (dI : Nat → Nat → Nat) (cy : Nat → ClassId) (a0 : Nat → Nat) (m0 : Mod) (p1 : Int32) (res : Int32) (h : G_X9_ringPoints m0 p1 = some res) : CT l (dC, dI) (TY cy) yX9_ringPoints cX9_ringPoints 4 (some .int) rm_X9_ringPoints [.ref (a0 0), .int p1] (wMod a0 cy m0) (wMod a0 cy m0) (some (.int res)) := by
  refine CT.mk_i (own := RX9) ⟨by decide, rfl⟩ (Nat.le_of_ble_eq_true rfl) ?_
  intro p e s mm args below meth cd A Q hx hb hml hown htg hN hK hA hP hD hS hE ls hl
  have hl : lv_has ls 4 [(0, .ref (a0 0)), (1, .int p1)] := hl
  replace h : _ = some res := h
  unfold G_X9_ringPoints at h
  obtain ⟨H, hH⟩ : ∃ H, H = s.heap := ⟨_, rfl⟩
  obtain ⟨locs, hlocs⟩ : ∃ locs : List Loc, locs = [] := ⟨_, rfl⟩
  rw [← hlocs] at hS ⊢
  have hS : va_S A s.heap H locs := by rw [hH]; exact hS
  rw [← hH] at hP ⊢
  refine lv_iconst (v := 0) hx hb dX9_ringPoints_0 (by decide) ?_
  refine lv_istore_n (lv' := [(2, .int 0), (0, .ref (a0 0)), (1, .int p1)]) hx hb dX9_ringPoints_1 rfl hl (by decide) rfl (fun ls hl => ?_)
  refine lv_iconst (v := 0) hx hb dX9_ringPoints_2 (by decide) ?_
  refine lv_istore_n (lv' := [(3, .int 0), (2, .int 0), (0, .ref (a0 0)), (1, .int p1)]) hx hb dX9_ringPoints_3 rfl hl (by decide) rfl (fun ls hl => ?_)
  have hL4 : ∀ (n4 : Nat) (l3_4 : Int32) (l2_4 : Int32) (l1_4 : Int32) (H : Heap) (locs : List Loc) (ls : Array Slot), G_X9_ringPoints_L4 m0 n4 l3_4 l2_4 l1_4 = some res → va_P (dC, dI) vwCl (wMod a0 cy m0) H → va_D A (wMod a0 cy m0) → va_S A s.heap H locs → lv_has ls 4 [(3, .int l3_4), (2, .int l2_4), (0, .ref (a0 0)), (1, .int l1_4)] → W p l e rm_X9_ringPoints s mm args below meth cd H locs 0 0 Q (F0 mm 4 ls []) := by
    intro n4
    induction n4 with
    | zero => intro l3_4 l2_4 l1_4 H locs ls h; exact absurd h (by simp [G_X9_ringPoints_L4])
    | succ n4 ih4 =>
      intro l3_4 l2_4 l1_4 H locs ls h hP hD hS hl
      rw [G_X9_ringPoints_L4] at h
      refine lv_iload_n hx hb dX9_ringPoints_4 rfl (lv_at hl 0 rfl) ?_
      refine lv_aload_n hx hb dX9_ringPoints_5 rfl (lv_at hl 2 rfl) ?_
      refine lv_iload_n hx hb dX9_ringPoints_6 rfl (lv_at hl 3 rfl) ?_
      obtain ⟨v7, e7, h⟩ := bnd h
      refine cV (av := [.int l1_4]) (rest := [.int l3_4]) (st1 := [.int v7, .int l3_4]) (k1 := 0) (k2 := 0) (ci := 4) (q0 := 0) hx hb hml hown htg hN hK (c_X9_many l dC dI cy a0 m0 l1_4 v7 e7) (g_V gw935 gw937 gw10 gw63 gw938) hdV_X9_many rfl ⟨⟨Nat.le_of_ble_eq_true rfl, Nat.le_of_ble_eq_true rfl⟩, Nat.le_of_ble_eq_true rfl, Nat.le_of_ble_eq_true rfl⟩ hP hD hS hA ⟨rfl, rfl⟩ rfl [0, 1, 2, 3, 4, 5, 6, 7, 8, 9, 10, 11, 12, 13, 14] [] rfl rfl rfl (by decide) (by decide) hl.1 rfl (Nat.le_of_ble_eq_true rfl) rfl rfl rfl dX9_ringPoints_7 (fun H locs hP hD hS => ?_)
      have hP : va_P (dC, dI) vwCl (wMod a0 cy m0) H := hP
      have hD : va_D A (wMod a0 cy m0) := hD
      refine lv_icmp_ge (tgt := 28) hx hb dX9_ringPoints_10 (by decide) (fun c10 => ?_) (fun c10 => ?_)
      · replace h := if_t h c10
        refine lv_iload_n hx hb dX9_ringPoints_28 rfl (lv_at hl 1 rfl) ?_
        obtain rfl := Option.some.inj h
        exact hE H locs 29 ls _ hP hD hS rfl dX9_ringPoints_29
      replace h := if_f h c10
      refine lv_iload_n hx hb dX9_ringPoints_13 rfl (lv_at hl 1 rfl) ?_
      refine lv_aload_n hx hb dX9_ringPoints_14 rfl (lv_at hl 2 rfl) ?_
      refine lv_iload_n hx hb dX9_ringPoints_15 rfl (lv_at hl 3 rfl) ?_
      refine lv_iload_n hx hb dX9_ringPoints_16 rfl (lv_at hl 0 rfl) ?_
      obtain ⟨v17, e17, h⟩ := bnd h
      refine cV (av := [.int l1_4, .int l3_4]) (rest := [.int l2_4]) (st1 := [.int v17, .int l2_4]) (k1 := 0) (k2 := 0) (ci := 4) (q0 := 0) hx hb hml hown htg hN hK (c_X9_pointsOf l dC dI cy a0 m0 l1_4 l3_4 v17 e17) (g_V gw1019 gw1021 gw26 gw63 gw1022) hdV_X9_pointsOf rfl ⟨⟨Nat.le_of_ble_eq_true rfl, Nat.le_of_ble_eq_true rfl⟩, Nat.le_of_ble_eq_true rfl, Nat.le_of_ble_eq_true rfl⟩ hP hD hS hA ⟨rfl, rfl⟩ rfl [0, 1, 2, 3, 4, 5, 6, 7, 8, 9, 10, 11, 12, 13, 14] [] rfl rfl rfl (by decide) (by decide) hl.1 rfl (Nat.le_of_ble_eq_true rfl) rfl rfl rfl dX9_ringPoints_17 (fun H locs hP hD hS => ?_)
      have hP : va_P (dC, dI) vwCl (wMod a0 cy m0) H := hP
      have hD : va_D A (wMod a0 cy m0) := hD
      refine lv_iadd hx hb dX9_ringPoints_20 ?_
      refine lv_istore_n (lv' := [(2, .int (l2_4 + v17)), (3, .int l3_4), (0, .ref (a0 0)), (1, .int l1_4)]) hx hb dX9_ringPoints_21 rfl hl (by decide) rfl (fun ls hl => ?_)
      refine lv_iinc (v := l3_4 + 1) (lv' := [(3, .int (l3_4 + 1)), (2, .int (l2_4 + v17)), (0, .ref (a0 0)), (1, .int l1_4)]) hx hb dX9_ringPoints_22 hl (k := 1) rfl rfl (by decide) rfl (fun ls hl => ?_)
      refine lv_goto (tgt := 4) hx hb dX9_ringPoints_25 (by decide) ?_
      exact ih4 (l3_4 + 1) (l2_4 + v17) l1_4 H locs ls h hP hD hS (lv_sub hl [0, 1, 2, 3] rfl)
  exact hL4 FU 0 0 p1 H locs ls h hP hD hS (lv_sub hl [0, 1, 2, 3] rfl)
def G_X9_turnOf (p0 : Int32) (p1 : Int32) (p2 : Int32) (p3 : Int32) (p4 : Int32) (p5 : Int32) : Option (Int32) :=
  if ((p2 - p0) * (p5 - p1)) - ((p3 - p1) * (p4 - p0)) ≤ 0 then
    if 0 ≤ ((p2 - p0) * (p5 - p1)) - ((p3 - p1) * (p4 - p0)) then
      some 0
    else
      some (-1)
  else
    some 1
abbrev rm_X9_turnOf : Room := { frames := 0, cells := 0, slots := 0, locals := 0 }
theorem hdS_X9_turnOf : yX9_turnOf.cls ≠ "java/lang/invoke/MethodHandle" ∧ yX9_turnOf.cls ≠ "java/lang/invoke/VarHandle" ∧ (parseMethodDescriptor yX9_turnOf.desc).map (fun d => d.parameters.length) = some 6 := by decide +kernel
set_option maxHeartbeats 4000000 in
set_option maxRecDepth 100000 in
theorem c_X9_turnOf (l : Launch) (dC : Nat → ClassId) (dI : Nat → Nat → Nat) (cy : Nat → ClassId)  (p0 : Int32) (p1 : Int32) (p2 : Int32) (p3 : Int32) (p4 : Int32) (p5 : Int32) (res : Int32) (h : G_X9_turnOf p0 p1 p2 p3 p4 p5 = some res) : CT l (dC, dI) (TY cy) yX9_turnOf cX9_turnOf 7 (some .int) rm_X9_turnOf [.int p0, .int p1, .int p2, .int p3, .int p4, .int p5] ([]) ([]) (some (.int res)) := by
  refine CT.mk_i (own := RX9) ⟨by decide, rfl⟩ (Nat.le_of_ble_eq_true rfl) ?_
  intro p e s mm args below meth cd A Q hx hb hml hown htg hN hK hA hP hD hS hE ls hl
  have hl : lv_has ls 7 [(0, .int p0), (1, .int p1), (2, .int p2), (3, .int p3), (4, .int p4), (5, .int p5)] := hl
  replace h : _ = some res := h
  unfold G_X9_turnOf at h
  obtain ⟨H, hH⟩ : ∃ H, H = s.heap := ⟨_, rfl⟩
  obtain ⟨locs, hlocs⟩ : ∃ locs : List Loc, locs = [] := ⟨_, rfl⟩
  rw [← hlocs] at hS ⊢
  have hS : va_S A s.heap H locs := by rw [hH]; exact hS
  rw [← hH] at hP ⊢
  refine lv_iload_n hx hb dX9_turnOf_0 rfl (lv_at hl 2 rfl) ?_
  refine lv_iload_n hx hb dX9_turnOf_1 rfl (lv_at hl 0 rfl) ?_
  refine lv_isub hx hb dX9_turnOf_2 ?_
  refine lv_iload hx hb dX9_turnOf_3 (lv_at hl 5 rfl) ?_
  refine lv_iload_n hx hb dX9_turnOf_5 rfl (lv_at hl 1 rfl) ?_
  refine lv_isub hx hb dX9_turnOf_6 ?_
  refine lv_imul hx hb dX9_turnOf_7 ?_
  refine lv_iload_n hx hb dX9_turnOf_8 rfl (lv_at hl 3 rfl) ?_
  refine lv_iload_n hx hb dX9_turnOf_9 rfl (lv_at hl 1 rfl) ?_
  refine lv_isub hx hb dX9_turnOf_10 ?_
  refine lv_iload hx hb dX9_turnOf_11 (lv_at hl 4 rfl) ?_
  refine lv_iload_n hx hb dX9_turnOf_13 rfl (lv_at hl 0 rfl) ?_
  refine lv_isub hx hb dX9_turnOf_14 ?_
  refine lv_imul hx hb dX9_turnOf_15 ?_
  refine lv_isub hx hb dX9_turnOf_16 ?_
  refine lv_istore (lv' := [(6, .int (((p2 - p0) * (p5 - p1)) - ((p3 - p1) * (p4 - p0)))), (0, .int p0), (1, .int p1), (2, .int p2), (3, .int p3), (4, .int p4), (5, .int p5)]) hx hb dX9_turnOf_17 hl (by decide) rfl (fun ls hl => ?_)
  refine lv_iload hx hb dX9_turnOf_19 (lv_at hl 0 rfl) ?_
  refine lv_if_le (tgt := 28) hx hb dX9_turnOf_21 (by decide) (fun c21 => ?_) (fun c21 => ?_)
  · replace h := if_t h c21
    refine lv_iload hx hb dX9_turnOf_28 (lv_at hl 0 rfl) ?_
    refine lv_if_ge (tgt := 37) hx hb dX9_turnOf_30 (by decide) (fun c30 => ?_) (fun c30 => ?_)
    · replace h := if_t h c30
      refine lv_iconst (v := 0) hx hb dX9_turnOf_37 (by decide) ?_
      obtain rfl := Option.some.inj h
      exact hE H locs 38 ls _ hP hD hS rfl dX9_turnOf_38
    replace h := if_f h c30
    refine lv_iconst (v := (-1)) hx hb dX9_turnOf_33 (by decide) ?_
    refine lv_goto (tgt := 38) hx hb dX9_turnOf_34 (by decide) ?_
    obtain rfl := Option.some.inj h
    exact hE H locs 38 ls _ hP hD hS rfl dX9_turnOf_38
  replace h := if_f h c21
  refine lv_iconst (v := 1) hx hb dX9_turnOf_24 (by decide) ?_
  refine lv_goto (tgt := 38) hx hb dX9_turnOf_25 (by decide) ?_
  obtain rfl := Option.some.inj h
  exact hE H locs 38 ls _ hP hD hS rfl dX9_turnOf_38
def G_X9_isOn (p0 : Int32) (p1 : Int32) (p2 : Int32) (p3 : Int32) (p4 : Int32) (p5 : Int32) : Option (Int32) :=
  ((if p2 ≤ p0 then
      some p2
    else
      some p0) : Option (Int32)).bind fun b4 =>
  ((if p2 ≤ p0 then
      some p0
    else
      some p2) : Option (Int32)).bind fun b14 =>
  (G_X9_within p4 b4 b14).bind fun v22 =>
  ((if v22 = 0 then
      some 0
    else
      ((if p3 ≤ p1 then
          some p3
        else
          some p1) : Option (Int32)).bind fun b32 =>
      ((if p3 ≤ p1 then
          some p1
        else
          some p3) : Option (Int32)).bind fun b42 =>
      (G_X9_within p5 b32 b42).bind fun v50 =>
      if v50 = 0 then
        some 0
      else
        some 1) : Option (Int32)).bind fun b25 =>
  if b25 = 0 then
    some 0
  else
    (G_X9_turnOf p0 p1 p2 p3 p4 p5).bind fun v76 =>
    if v76 = 0 then
      some 1
    else
      some 0
abbrev rm_X9_isOn : Room := { frames := 1, cells := 0, slots := 0, locals := 26 }
theorem hdS_X9_isOn : yX9_isOn.cls ≠ "java/lang/invoke/MethodHandle" ∧ yX9_isOn.cls ≠ "java/lang/invoke/VarHandle" ∧ (parseMethodDescriptor yX9_isOn.desc).map (fun d => d.parameters.length) = some 6 := by decide +kernel
set_option maxHeartbeats 4000000 in
set_option maxRecDepth 100000 in
theorem c_X9_isOn (l : Launch) (dC : Nat → ClassId) (dI : Nat → Nat → Nat) (cy : Nat → ClassId)  (p0 : Int32) (p1 : Int32) (p2 : Int32) (p3 : Int32) (p4 : Int32) (p5 : Int32) (res : Int32) (h : G_X9_isOn p0 p1 p2 p3 p4 p5 = some res) : CT l (dC, dI) (TY cy) yX9_isOn cX9_isOn 7 (some .boolean) rm_X9_isOn [.int p0, .int p1, .int p2, .int p3, .int p4, .int p5] ([]) ([]) (some (.int res)) := by
  refine CT.mk_z (own := RX9) ⟨by decide, rfl⟩ (Nat.le_of_ble_eq_true rfl) ?_
  intro p e s mm args below meth cd A Q hx hb hml hown htg hN hK hA hP hD hS hE ls hl
  have hl : lv_has ls 7 [(0, .int p0), (1, .int p1), (2, .int p2), (3, .int p3), (4, .int p4), (5, .int p5)] := hl
  replace h : _ = some res := h
  unfold G_X9_isOn at h
  obtain ⟨H, hH⟩ : ∃ H, H = s.heap := ⟨_, rfl⟩
  obtain ⟨locs, hlocs⟩ : ∃ locs : List Loc, locs = [] := ⟨_, rfl⟩
  rw [← hlocs] at hS ⊢
  have hS : va_S A s.heap H locs := by rw [hH]; exact hS
  rw [← hH] at hP ⊢
  refine lv_iload hx hb dX9_isOn_0 (lv_at hl 4 rfl) ?_
  refine lv_iload_n hx hb dX9_isOn_2 rfl (lv_at hl 0 rfl) ?_
  refine lv_iload_n hx hb dX9_isOn_3 rfl (lv_at hl 2 rfl) ?_
  obtain ⟨b4, e4, h⟩ := bnd h
  have hr12 : ∀ (H : Heap) (locs : List Loc) (ls : Array Slot), va_P (dC, dI) vwCl ([]) H → va_D A ([]) → va_S A s.heap H locs → lv_has ls 7 [(0, .int p0), (1, .int p1), (2, .int p2), (3, .int p3), (4, .int p4), (5, .int p5)] → W p l e rm_X9_isOn s mm args below meth cd H locs 0 0 Q (F0 mm 12 ls [.int b4, .int p4]) := by
    intro H locs ls hP hD hS hl
    refine lv_iload_n hx hb dX9_isOn_12 rfl (lv_at hl 0 rfl) ?_
    refine lv_iload_n hx hb dX9_isOn_13 rfl (lv_at hl 2 rfl) ?_
    obtain ⟨b14, e14, h⟩ := bnd h
    have hr22 : ∀ (H : Heap) (locs : List Loc) (ls : Array Slot), va_P (dC, dI) vwCl ([]) H → va_D A ([]) → va_S A s.heap H locs → lv_has ls 7 [(0, .int p0), (1, .int p1), (2, .int p2), (3, .int p3), (4, .int p4), (5, .int p5)] → W p l e rm_X9_isOn s mm args below meth cd H locs 0 0 Q (F0 mm 22 ls [.int b14, .int b4, .int p4]) := by
      intro H locs ls hP hD hS hl
      obtain ⟨v22, e22, h⟩ := bnd h
      refine cS (av := [.int p4, .int b4, .int b14]) (rest := []) (st1 := [.int v22]) (k1 := 0) (k2 := 0) hx hb hml hown htg hN hK (c_X9_within l dC dI cy   p4 b4 b14 v22 e22) (g_S gw913 gw914 gw63 gw915) hdS_X9_within rfl ⟨⟨Nat.le_of_ble_eq_true rfl, Nat.le_of_ble_eq_true rfl⟩, Nat.le_of_ble_eq_true rfl, Nat.le_of_ble_eq_true rfl⟩ hP hD hS hA [] [] rfl rfl rfl (by decide) (by decide) hl.1 rfl (Nat.le_of_ble_eq_true rfl) rfl rfl rfl dX9_isOn_22 (fun H locs hP hD hS => ?_)
      have hP : va_P (dC, dI) vwCl ([]) H := hP
      have hD : va_D A ([]) := hD
      obtain ⟨b25, e25, h⟩ := bnd h
      have hr61 : ∀ (H : Heap) (locs : List Loc) (ls : Array Slot), va_P (dC, dI) vwCl ([]) H → va_D A ([]) → va_S A s.heap H locs → lv_has ls 7 [(0, .int p0), (1, .int p1), (2, .int p2), (3, .int p3), (4, .int p4), (5, .int p5)] → W p l e rm_X9_isOn s mm args below meth cd H locs 0 0 Q (F0 mm 61 ls [.int b25]) := by
        intro H locs ls hP hD hS hl
        refine lv_istore (lv' := [(6, .int b25), (0, .int p0), (1, .int p1), (2, .int p2), (3, .int p3), (4, .int p4), (5, .int p5)]) hx hb dX9_isOn_61 hl (by decide) rfl (fun ls hl => ?_)
        refine lv_iload hx hb dX9_isOn_63 (lv_at hl 0 rfl) ?_
        refine lv_if_eq (tgt := 86) hx hb dX9_isOn_65 (by decide) (fun c65 => ?_) (fun c65 => ?_)
        · replace h := if_t h c65
          refine lv_iconst (v := 0) hx hb dX9_isOn_86 (by decide) ?_
          obtain rfl := Option.some.inj h
          exact hE H locs 87 ls _ hP hD hS rfl (Or.inl rfl) dX9_isOn_87
        replace h := if_f h c65
        refine lv_iload_n hx hb dX9_isOn_68 rfl (lv_at hl 1 rfl) ?_
        refine lv_iload_n hx hb dX9_isOn_69 rfl (lv_at hl 2 rfl) ?_
        refine lv_iload_n hx hb dX9_isOn_70 rfl (lv_at hl 3 rfl) ?_
        refine lv_iload_n hx hb dX9_isOn_71 rfl (lv_at hl 4 rfl) ?_
        refine lv_iload hx hb dX9_isOn_72 (lv_at hl 5 rfl) ?_
        refine lv_iload hx hb dX9_isOn_74 (lv_at hl 6 rfl) ?_
        obtain ⟨v76, e76, h⟩ := bnd h
        refine cS (av := [.int p0, .int p1, .int p2, .int p3, .int p4, .int p5]) (rest := []) (st1 := [.int v76]) (k1 := 0) (k2 := 0) hx hb hml hown htg hN hK (c_X9_turnOf l dC dI cy   p0 p1 p2 p3 p4 p5 v76 e76) (g_S gw963 gw964 gw63 gw965) hdS_X9_turnOf rfl ⟨⟨Nat.le_of_ble_eq_true rfl, Nat.le_of_ble_eq_true rfl⟩, Nat.le_of_ble_eq_true rfl, Nat.le_of_ble_eq_true rfl⟩ hP hD hS hA [] [] rfl rfl rfl (by decide) (by decide) hl.1 rfl (Nat.le_of_ble_eq_true rfl) rfl rfl rfl dX9_isOn_76 (fun H locs hP hD hS => ?_)
        have hP : va_P (dC, dI) vwCl ([]) H := hP
        have hD : va_D A ([]) := hD
        refine lv_if_ne (tgt := 86) hx hb dX9_isOn_79 (by decide) (fun c79 => ?_) (fun c79 => ?_)
        · replace h := if_f h c79
          refine lv_iconst (v := 0) hx hb dX9_isOn_86 (by decide) ?_
          obtain rfl := Option.some.inj h
          exact hE H locs 87 ls _ hP hD hS rfl (Or.inl rfl) dX9_isOn_87
        replace h := if_t h c79
        refine lv_iconst (v := 1) hx hb dX9_isOn_82 (by decide) ?_
        refine lv_goto (tgt := 87) hx hb dX9_isOn_83 (by decide) ?_
        obtain rfl := Option.some.inj h
        exact hE H locs 87 ls _ hP hD hS rfl (Or.inr rfl) dX9_isOn_87
      have h := e25
      clear e25
      refine lv_if_eq (tgt := 60) hx hb dX9_isOn_25 (by decide) (fun c25 => ?_) (fun c25 => ?_)
      · replace h := if_t h c25
        refine lv_iconst (v := 0) hx hb dX9_isOn_60 (by decide) ?_
        obtain rfl := Option.some.inj h
        exact hr61 H locs ls hP hD hS hl
      replace h := if_f h c25
      refine lv_iload hx hb dX9_isOn_28 (lv_at hl 5 rfl) ?_
      refine lv_iload_n hx hb dX9_isOn_30 rfl (lv_at hl 1 rfl) ?_
      refine lv_iload_n hx hb dX9_isOn_31 rfl (lv_at hl 3 rfl) ?_
      obtain ⟨b32, e32, h⟩ := bnd h
      have hr40 : ∀ (H : Heap) (locs : List Loc) (ls : Array Slot), va_P (dC, dI) vwCl ([]) H → va_D A ([]) → va_S A s.heap H locs → lv_has ls 7 [(0, .int p0), (1, .int p1), (2, .int p2), (3, .int p3), (4, .int p4), (5, .int p5)] → W p l e rm_X9_isOn s mm args below meth cd H locs 0 0 Q (F0 mm 40 ls [.int b32, .int p5]) := by
        intro H locs ls hP hD hS hl
        refine lv_iload_n hx hb dX9_isOn_40 rfl (lv_at hl 1 rfl) ?_
        refine lv_iload_n hx hb dX9_isOn_41 rfl (lv_at hl 3 rfl) ?_
        obtain ⟨b42, e42, h⟩ := bnd h
        have hr50 : ∀ (H : Heap) (locs : List Loc) (ls : Array Slot), va_P (dC, dI) vwCl ([]) H → va_D A ([]) → va_S A s.heap H locs → lv_has ls 7 [(0, .int p0), (1, .int p1), (2, .int p2), (3, .int p3), (4, .int p4), (5, .int p5)] → W p l e rm_X9_isOn s mm args below meth cd H locs 0 0 Q (F0 mm 50 ls [.int b42, .int b32, .int p5]) := by
          intro H locs ls hP hD hS hl
          obtain ⟨v50, e50, h⟩ := bnd h
          refine cS (av := [.int p5, .int b32, .int b42]) (rest := []) (st1 := [.int v50]) (k1 := 0) (k2 := 0) hx hb hml hown htg hN hK (c_X9_within l dC dI cy   p5 b32 b42 v50 e50) (g_S gw913 gw914 gw63 gw915) hdS_X9_within rfl ⟨⟨Nat.le_of_ble_eq_true rfl, Nat.le_of_ble_eq_true rfl⟩, Nat.le_of_ble_eq_true rfl, Nat.le_of_ble_eq_true rfl⟩ hP hD hS hA [] [] rfl rfl rfl (by decide) (by decide) hl.1 rfl (Nat.le_of_ble_eq_true rfl) rfl rfl rfl dX9_isOn_50 (fun H locs hP hD hS => ?_)
          have hP : va_P (dC, dI) vwCl ([]) H := hP
          have hD : va_D A ([]) := hD
          refine lv_if_eq (tgt := 60) hx hb dX9_isOn_53 (by decide) (fun c53 => ?_) (fun c53 => ?_)
          · replace h := if_t h c53
            refine lv_iconst (v := 0) hx hb dX9_isOn_60 (by decide) ?_
            obtain rfl := Option.some.inj h
            exact hr61 H locs ls hP hD hS hl
          replace h := if_f h c53
          refine lv_iconst (v := 1) hx hb dX9_isOn_56 (by decide) ?_
          refine lv_goto (tgt := 61) hx hb dX9_isOn_57 (by decide) ?_
          obtain rfl := Option.some.inj h
          exact hr61 H locs ls hP hD hS hl
        have h := e42
        clear e42
        refine lv_icmp_ge (tgt := 49) hx hb dX9_isOn_42 (by decide) (fun c42 => ?_) (fun c42 => ?_)
        · replace h := if_t h c42
          refine lv_iload_n hx hb dX9_isOn_49 rfl (lv_at hl 1 rfl) ?_
          obtain rfl := Option.some.inj h
          exact hr50 H locs ls hP hD hS hl
        replace h := if_f h c42
        refine lv_iload_n hx hb dX9_isOn_45 rfl (lv_at hl 3 rfl) ?_
        refine lv_goto (tgt := 50) hx hb dX9_isOn_46 (by decide) ?_
        obtain rfl := Option.some.inj h
        exact hr50 H locs ls hP hD hS hl
      have h := e32
      clear e32
      refine lv_icmp_ge (tgt := 39) hx hb dX9_isOn_32 (by decide) (fun c32 => ?_) (fun c32 => ?_)
      · replace h := if_t h c32
        refine lv_iload_n hx hb dX9_isOn_39 rfl (lv_at hl 3 rfl) ?_
        obtain rfl := Option.some.inj h
        exact hr40 H locs ls hP hD hS hl
      replace h := if_f h c32
      refine lv_iload_n hx hb dX9_isOn_35 rfl (lv_at hl 1 rfl) ?_
      refine lv_goto (tgt := 40) hx hb dX9_isOn_36 (by decide) ?_
      obtain rfl := Option.some.inj h
      exact hr40 H locs ls hP hD hS hl
    have h := e14
    clear e14
    refine lv_icmp_ge (tgt := 21) hx hb dX9_isOn_14 (by decide) (fun c14 => ?_) (fun c14 => ?_)
    · replace h := if_t h c14
      refine lv_iload_n hx hb dX9_isOn_21 rfl (lv_at hl 0 rfl) ?_
      obtain rfl := Option.some.inj h
      exact hr22 H locs ls hP hD hS hl
    replace h := if_f h c14
    refine lv_iload_n hx hb dX9_isOn_17 rfl (lv_at hl 2 rfl) ?_
    refine lv_goto (tgt := 22) hx hb dX9_isOn_18 (by decide) ?_
    obtain rfl := Option.some.inj h
    exact hr22 H locs ls hP hD hS hl
  have h := e4
  clear e4
  refine lv_icmp_ge (tgt := 11) hx hb dX9_isOn_4 (by decide) (fun c4 => ?_) (fun c4 => ?_)
  · replace h := if_t h c4
    refine lv_iload_n hx hb dX9_isOn_11 rfl (lv_at hl 2 rfl) ?_
    obtain rfl := Option.some.inj h
    exact hr12 H locs ls hP hD hS hl
  replace h := if_f h c4
  refine lv_iload_n hx hb dX9_isOn_7 rfl (lv_at hl 0 rfl) ?_
  refine lv_goto (tgt := 12) hx hb dX9_isOn_8 (by decide) ?_
  obtain rfl := Option.some.inj h
  exact hr12 H locs ls hP hD hS hl
def G_X9_surrounds_L6  (m0 : Mod) : Nat → Int32 → Int32 → Int32 → Int32 → Int32 → Option (Int32)
  | 0, _, _, _, _, _ => none
  | n6 + 1, l5_6, l4_6, l1_6, l2_6, l3_6 =>
    (G_X9_many m0 l1_6).bind fun v10 =>
    if v10 ≤ l5_6 then
      (bck l4_6).bind fun v180 =>
      some v180
    else
      (G_X9_x m0 l1_6 l5_6).bind fun v21 =>
      (G_X9_y m0 l1_6 l5_6).bind fun v32 =>
      (G_X9_next m0 l1_6 l5_6).bind fun v45 =>
      (G_X9_x m0 l1_6 v45).bind fun v48 =>
      (G_X9_next m0 l1_6 l5_6).bind fun v61 =>
      (G_X9_y m0 l1_6 v61).bind fun v64 =>
      ((if 2 * v64 ≤ 2 * v32 then
          if 0 ≤ (((2 * v48) - (2 * v21)) * (l3_6 - (2 * v32))) - ((l2_6 - (2 * v21)) * ((2 * v64) - (2 * v32))) then
            some 0
          else
            some 1
        else
          if (((2 * v48) - (2 * v21)) * (l3_6 - (2 * v32))) - ((l2_6 - (2 * v21)) * ((2 * v64) - (2 * v32))) ≤ 0 then
            some 0
          else
            some 1) : Option (Int32)).bind fun b97 =>
      ((if 2 * v32 ≤ l3_6 then
          some 0
        else
          some 1) : Option (Int32)).bind fun b128 =>
      ((if 2 * v64 ≤ l3_6 then
          some 0
        else
          some 1) : Option (Int32)).bind fun b139 =>
      ((if b128 = b139 then
          some l4_6
        else
          if b97 = 0 then
            some l4_6
          else
            if l4_6 = 0 then
              some 1
            else
              some 0) : Option (Int32)).bind fun b147 =>
      (G_X9_surrounds_L6 m0 n6) (l5_6 + 1) b147 l1_6 l2_6 l3_6
def G_X9_surrounds (m0 : Mod) (p1 : Int32) (p2 : Int32) (p3 : Int32) : Option (Int32) :=
  G_X9_surrounds_L6 m0 FU 0 0 p1 p2 p3
abbrev rm_X9_surrounds : Room := { frames := 2, cells := 0, slots := 0, locals := 43 }
theorem hdS_X9_surrounds : yX9_surrounds.cls ≠ "java/lang/invoke/MethodHandle" ∧ yX9_surrounds.cls ≠ "java/lang/invoke/VarHandle" ∧ (parseMethodDescriptor yX9_surrounds.desc).map (fun d => d.parameters.length) = some 3 := by decide +kernel
theorem hdV_X9_surrounds : yX9_surrounds.cls = RX9 ∧ yX9_surrounds.cls ≠ "java/lang/invoke/MethodHandle" ∧ yX9_surrounds.cls ≠ "java/lang/invoke/VarHandle" ∧ (parseMethodDescriptor yX9_surrounds.desc).map (fun d => d.parameters.length) = some 3 := ⟨rfl, hdS_X9_surrounds⟩
set_option maxHeartbeats 4000000 in
set_option maxRecDepth 100000 in
theorem c_X9_surrounds (l : Launch) (dC : Nat → ClassId) (dI : Nat → Nat → Nat) (cy : Nat → ClassId) (a0 : Nat → Nat) (m0 : Mod) (p1 : Int32) (p2 : Int32) (p3 : Int32) (res : Int32) (h : G_X9_surrounds m0 p1 p2 p3 = some res) : CT l (dC, dI) (TY cy) yX9_surrounds cX9_surrounds 12 (some .boolean) rm_X9_surrounds [.ref (a0 0), .int p1, .int p2, .int p3] (wMod a0 cy m0) (wMod a0 cy m0) (some (.int res)) := by
  refine CT.mk_z (own := RX9) ⟨by decide, rfl⟩ (Nat.le_of_ble_eq_true rfl) ?_
  intro p e s mm args below meth cd A Q hx hb hml hown htg hN hK hA hP hD hS hE ls hl
  have hl : lv_has ls 12 [(0, .ref (a0 0)), (1, .int p1), (2, .int p2), (3, .int p3)] := hl
  replace h : _ = some res := h
  unfold G_X9_surrounds at h
  obtain ⟨H, hH⟩ : ∃ H, H = s.heap := ⟨_, rfl⟩
  obtain ⟨locs, hlocs⟩ : ∃ locs : List Loc, locs = [] := ⟨_, rfl⟩
  rw [← hlocs] at hS ⊢
  have hS : va_S A s.heap H locs := by rw [hH]; exact hS
  rw [← hH] at hP ⊢
  refine lv_iconst (v := 0) hx hb dX9_surrounds_0 (by decide) ?_
  refine lv_istore (lv' := [(4, .int 0), (0, .ref (a0 0)), (1, .int p1), (2, .int p2), (3, .int p3)]) hx hb dX9_surrounds_1 hl (by decide) rfl (fun ls hl => ?_)
  refine lv_iconst (v := 0) hx hb dX9_surrounds_3 (by decide) ?_
  refine lv_istore (lv' := [(5, .int 0), (4, .int 0), (0, .ref (a0 0)), (1, .int p1), (2, .int p2), (3, .int p3)]) hx hb dX9_surrounds_4 hl (by decide) rfl (fun ls hl => ?_)
  have hL6 : ∀ (n6 : Nat) (l5_6 : Int32) (l4_6 : Int32) (l1_6 : Int32) (l2_6 : Int32) (l3_6 : Int32) (H : Heap) (locs : List Loc) (ls : Array Slot), G_X9_surrounds_L6 m0 n6 l5_6 l4_6 l1_6 l2_6 l3_6 = some res → va_P (dC, dI) vwCl (wMod a0 cy m0) H → va_D A (wMod a0 cy m0) → va_S A s.heap H locs → lv_has ls 12 [(5, .int l5_6), (4, .int l4_6), (0, .ref (a0 0)), (1, .int l1_6), (2, .int l2_6), (3, .int l3_6)] → W p l e rm_X9_surrounds s mm args below meth cd H locs 0 0 Q (F0 mm 6 ls []) := by
    intro n6
    induction n6 with
    | zero => intro l5_6 l4_6 l1_6 l2_6 l3_6 H locs ls h; exact absurd h (by simp [G_X9_surrounds_L6])
    | succ n6 ih6 =>
      intro l5_6 l4_6 l1_6 l2_6 l3_6 H locs ls h hP hD hS hl
      rw [G_X9_surrounds_L6] at h
      refine lv_iload hx hb dX9_surrounds_6 (lv_at hl 0 rfl) ?_
      refine lv_aload_n hx hb dX9_surrounds_8 rfl (lv_at hl 2 rfl) ?_
      refine lv_iload_n hx hb dX9_surrounds_9 rfl (lv_at hl 3 rfl) ?_
      obtain ⟨v10, e10, h⟩ := bnd h
      refine cV (av := [.int l1_6]) (rest := [.int l5_6]) (st1 := [.int v10, .int l5_6]) (k1 := 0) (k2 := 0) (ci := 4) (q0 := 0) hx hb hml hown htg hN hK (c_X9_many l dC dI cy a0 m0 l1_6 v10 e10) (g_V gw935 gw937 gw10 gw63 gw938) hdV_X9_many rfl ⟨⟨Nat.le_of_ble_eq_true rfl, Nat.le_of_ble_eq_true rfl⟩, Nat.le_of_ble_eq_true rfl, Nat.le_of_ble_eq_true rfl⟩ hP hD hS hA ⟨rfl, rfl⟩ rfl [0, 1, 2, 3, 4, 5, 6, 7, 8, 9, 10, 11, 12, 13, 14] [] rfl rfl rfl (by decide) (by decide) hl.1 rfl (Nat.le_of_ble_eq_true rfl) rfl rfl rfl dX9_surrounds_10 (fun H locs hP hD hS => ?_)
      have hP : va_P (dC, dI) vwCl (wMod a0 cy m0) H := hP
      have hD : va_D A (wMod a0 cy m0) := hD
      refine lv_icmp_ge (tgt := 178) hx hb dX9_surrounds_13 (by decide) (fun c13 => ?_) (fun c13 => ?_)
      · replace h := if_t h c13
        refine lv_iload hx hb dX9_surrounds_178 (lv_at hl 1 rfl) ?_
        obtain ⟨v180, e180, h⟩ := bnd h
        obtain ⟨rfl, hz180⟩ := bck_in e180
        obtain rfl := Option.some.inj h
        exact hE H locs 180 ls _ hP hD hS rfl hz180 dX9_surrounds_180
      replace h := if_f h c13
      refine lv_iconst (v := 2) hx hb dX9_surrounds_16 (by decide) ?_
      refine lv_aload_n hx hb dX9_surrounds_17 rfl (lv_at hl 2 rfl) ?_
      refine lv_iload_n hx hb dX9_surrounds_18 rfl (lv_at hl 3 rfl) ?_
      refine lv_iload hx hb dX9_surrounds_19 (lv_at hl 0 rfl) ?_
      obtain ⟨v21, e21, h⟩ := bnd h
      refine cV (av := [.int l1_6, .int l5_6]) (rest := [.int 2]) (st1 := [.int v21, .int 2]) (k1 := 0) (k2 := 0) (ci := 4) (q0 := 0) hx hb hml hown htg hN hK (c_X9_x l dC dI cy a0 m0 l1_6 l5_6 v21 e21) (g_V gw947 gw949 gw13 gw63 gw950) hdV_X9_x rfl ⟨⟨Nat.le_of_ble_eq_true rfl, Nat.le_of_ble_eq_true rfl⟩, Nat.le_of_ble_eq_true rfl, Nat.le_of_ble_eq_true rfl⟩ hP hD hS hA ⟨rfl, rfl⟩ rfl [0, 1, 2, 3, 4, 5, 6, 7, 8, 9, 10, 11, 12, 13, 14] [] rfl rfl rfl (by decide) (by decide) hl.1 rfl (Nat.le_of_ble_eq_true rfl) rfl rfl rfl dX9_surrounds_21 (fun H locs hP hD hS => ?_)
      have hP : va_P (dC, dI) vwCl (wMod a0 cy m0) H := hP
      have hD : va_D A (wMod a0 cy m0) := hD
      refine lv_imul hx hb dX9_surrounds_24 ?_
      refine lv_istore (lv' := [(6, .int (2 * v21)), (5, .int l5_6), (4, .int l4_6), (0, .ref (a0 0)), (1, .int l1_6), (2, .int l2_6), (3, .int l3_6)]) hx hb dX9_surrounds_25 hl (by decide) rfl (fun ls hl => ?_)
      refine lv_iconst (v := 2) hx hb dX9_surrounds_27 (by decide) ?_
      refine lv_aload_n hx hb dX9_surrounds_28 rfl (lv_at hl 3 rfl) ?_
      refine lv_iload_n hx hb dX9_surrounds_29 rfl (lv_at hl 4 rfl) ?_
      refine lv_iload hx hb dX9_surrounds_30 (lv_at hl 1 rfl) ?_
      obtain ⟨v32, e32, h⟩ := bnd h
      refine cV (av := [.int l1_6, .int l5_6]) (rest := [.int 2]) (st1 := [.int v32, .int 2]) (k1 := 0) (k2 := 0) (ci := 4) (q0 := 0) hx hb hml hown htg hN hK (c_X9_y l dC dI cy a0 m0 l1_6 l5_6 v32 e32) (g_V gw951 gw953 gw14 gw63 gw954) hdV_X9_y rfl ⟨⟨Nat.le_of_ble_eq_true rfl, Nat.le_of_ble_eq_true rfl⟩, Nat.le_of_ble_eq_true rfl, Nat.le_of_ble_eq_true rfl⟩ hP hD hS hA ⟨rfl, rfl⟩ rfl [0, 1, 2, 3, 4, 5, 6, 7, 8, 9, 10, 11, 12, 13, 14] [] rfl rfl rfl (by decide) (by decide) hl.1 rfl (Nat.le_of_ble_eq_true rfl) rfl rfl rfl dX9_surrounds_32 (fun H locs hP hD hS => ?_)
      have hP : va_P (dC, dI) vwCl (wMod a0 cy m0) H := hP
      have hD : va_D A (wMod a0 cy m0) := hD
      refine lv_imul hx hb dX9_surrounds_35 ?_
      refine lv_istore (lv' := [(7, .int (2 * v32)), (6, .int (2 * v21)), (5, .int l5_6), (4, .int l4_6), (0, .ref (a0 0)), (1, .int l1_6), (2, .int l2_6), (3, .int l3_6)]) hx hb dX9_surrounds_36 hl (by decide) rfl (fun ls hl => ?_)
      refine lv_iconst (v := 2) hx hb dX9_surrounds_38 (by decide) ?_
      refine lv_aload_n hx hb dX9_surrounds_39 rfl (lv_at hl 4 rfl) ?_
      refine lv_iload_n hx hb dX9_surrounds_40 rfl (lv_at hl 5 rfl) ?_
      refine lv_aload_n hx hb dX9_surrounds_41 rfl (lv_at hl 4 rfl) ?_
      refine lv_iload_n hx hb dX9_surrounds_42 rfl (lv_at hl 5 rfl) ?_
      refine lv_iload hx hb dX9_surrounds_43 (lv_at hl 2 rfl) ?_
      obtain ⟨v45, e45, h⟩ := bnd h
      refine cV (av := [.int l1_6, .int l5_6]) (rest := [.int l1_6, .ref (a0 0), .int 2]) (st1 := [.int v45, .int l1_6, .ref (a0 0), .int 2]) (k1 := 0) (k2 := 0) (ci := 4) (q0 := 0) hx hb hml hown htg hN hK (c_X9_next l dC dI cy a0 m0 l1_6 l5_6 v45 e45) (g_V gw955 gw957 gw15 gw63 gw958) hdV_X9_next rfl ⟨⟨Nat.le_of_ble_eq_true rfl, Nat.le_of_ble_eq_true rfl⟩, Nat.le_of_ble_eq_true rfl, Nat.le_of_ble_eq_true rfl⟩ hP hD hS hA ⟨rfl, rfl⟩ rfl [0, 1, 2, 3, 4, 5, 6, 7, 8, 9, 10, 11, 12, 13, 14] [] rfl rfl rfl (by decide) (by decide) hl.1 rfl (Nat.le_of_ble_eq_true rfl) rfl rfl rfl dX9_surrounds_45 (fun H locs hP hD hS => ?_)
      have hP : va_P (dC, dI) vwCl (wMod a0 cy m0) H := hP
      have hD : va_D A (wMod a0 cy m0) := hD
      obtain ⟨v48, e48, h⟩ := bnd h
      refine cV (av := [.int l1_6, .int v45]) (rest := [.int 2]) (st1 := [.int v48, .int 2]) (k1 := 0) (k2 := 0) (ci := 4) (q0 := 0) hx hb hml hown htg hN hK (c_X9_x l dC dI cy a0 m0 l1_6 v45 v48 e48) (g_V gw947 gw949 gw13 gw63 gw950) hdV_X9_x rfl ⟨⟨Nat.le_of_ble_eq_true rfl, Nat.le_of_ble_eq_true rfl⟩, Nat.le_of_ble_eq_true rfl, Nat.le_of_ble_eq_true rfl⟩ hP hD hS hA ⟨rfl, rfl⟩ rfl [0, 1, 2, 3, 4, 5, 6, 7, 8, 9, 10, 11, 12, 13, 14] [] rfl rfl rfl (by decide) (by decide) hl.1 rfl (Nat.le_of_ble_eq_true rfl) rfl rfl rfl dX9_surrounds_48 (fun H locs hP hD hS => ?_)
      have hP : va_P (dC, dI) vwCl (wMod a0 cy m0) H := hP
      have hD : va_D A (wMod a0 cy m0) := hD
      refine lv_imul hx hb dX9_surrounds_51 ?_
      refine lv_istore (lv' := [(8, .int (2 * v48)), (7, .int (2 * v32)), (6, .int (2 * v21)), (5, .int l5_6), (4, .int l4_6), (0, .ref (a0 0)), (1, .int l1_6), (2, .int l2_6), (3, .int l3_6)]) hx hb dX9_surrounds_52 hl (by decide) rfl (fun ls hl => ?_)
      refine lv_iconst (v := 2) hx hb dX9_surrounds_54 (by decide) ?_
      refine lv_aload_n hx hb dX9_surrounds_55 rfl (lv_at hl 5 rfl) ?_
      refine lv_iload_n hx hb dX9_surrounds_56 rfl (lv_at hl 6 rfl) ?_
      refine lv_aload_n hx hb dX9_surrounds_57 rfl (lv_at hl 5 rfl) ?_
      refine lv_iload_n hx hb dX9_surrounds_58 rfl (lv_at hl 6 rfl) ?_
      refine lv_iload hx hb dX9_surrounds_59 (lv_at hl 3 rfl) ?_
      obtain ⟨v61, e61, h⟩ := bnd h
      refine cV (av := [.int l1_6, .int l5_6]) (rest := [.int l1_6, .ref (a0 0), .int 2]) (st1 := [.int v61, .int l1_6, .ref (a0 0), .int 2]) (k1 := 0) (k2 := 0) (ci := 4) (q0 := 0) hx hb hml hown htg hN hK (c_X9_next l dC dI cy a0 m0 l1_6 l5_6 v61 e61) (g_V gw955 gw957 gw15 gw63 gw958) hdV_X9_next rfl ⟨⟨Nat.le_of_ble_eq_true rfl, Nat.le_of_ble_eq_true rfl⟩, Nat.le_of_ble_eq_true rfl, Nat.le_of_ble_eq_true rfl⟩ hP hD hS hA ⟨rfl, rfl⟩ rfl [0, 1, 2, 3, 4, 5, 6, 7, 8, 9, 10, 11, 12, 13, 14] [] rfl rfl rfl (by decide) (by decide) hl.1 rfl (Nat.le_of_ble_eq_true rfl) rfl rfl rfl dX9_surrounds_61 (fun H locs hP hD hS => ?_)
      have hP : va_P (dC, dI) vwCl (wMod a0 cy m0) H := hP
      have hD : va_D A (wMod a0 cy m0) := hD
      obtain ⟨v64, e64, h⟩ := bnd h
      refine cV (av := [.int l1_6, .int v61]) (rest := [.int 2]) (st1 := [.int v64, .int 2]) (k1 := 0) (k2 := 0) (ci := 4) (q0 := 0) hx hb hml hown htg hN hK (c_X9_y l dC dI cy a0 m0 l1_6 v61 v64 e64) (g_V gw951 gw953 gw14 gw63 gw954) hdV_X9_y rfl ⟨⟨Nat.le_of_ble_eq_true rfl, Nat.le_of_ble_eq_true rfl⟩, Nat.le_of_ble_eq_true rfl, Nat.le_of_ble_eq_true rfl⟩ hP hD hS hA ⟨rfl, rfl⟩ rfl [0, 1, 2, 3, 4, 5, 6, 7, 8, 9, 10, 11, 12, 13, 14] [] rfl rfl rfl (by decide) (by decide) hl.1 rfl (Nat.le_of_ble_eq_true rfl) rfl rfl rfl dX9_surrounds_64 (fun H locs hP hD hS => ?_)
      have hP : va_P (dC, dI) vwCl (wMod a0 cy m0) H := hP
      have hD : va_D A (wMod a0 cy m0) := hD
      refine lv_imul hx hb dX9_surrounds_67 ?_
      refine lv_istore (lv' := [(9, .int (2 * v64)), (8, .int (2 * v48)), (7, .int (2 * v32)), (6, .int (2 * v21)), (5, .int l5_6), (4, .int l4_6), (0, .ref (a0 0)), (1, .int l1_6), (2, .int l2_6), (3, .int l3_6)]) hx hb dX9_surrounds_68 hl (by decide) rfl (fun ls hl => ?_)
      refine lv_iload hx hb dX9_surrounds_70 (lv_at hl 1 rfl) ?_
      refine lv_iload hx hb dX9_surrounds_72 (lv_at hl 3 rfl) ?_
      refine lv_isub hx hb dX9_surrounds_74 ?_
      refine lv_iload_n hx hb dX9_surrounds_75 rfl (lv_at hl 9 rfl) ?_
      refine lv_iload hx hb dX9_surrounds_76 (lv_at hl 2 rfl) ?_
      refine lv_isub hx hb dX9_surrounds_78 ?_
      refine lv_imul hx hb dX9_surrounds_79 ?_
      refine lv_iload_n hx hb dX9_surrounds_80 rfl (lv_at hl 8 rfl) ?_
      refine lv_iload hx hb dX9_surrounds_81 (lv_at hl 3 rfl) ?_
      refine lv_isub hx hb dX9_surrounds_83 ?_
      refine lv_iload hx hb dX9_surrounds_84 (lv_at hl 0 rfl) ?_
      refine lv_iload hx hb dX9_surrounds_86 (lv_at hl 2 rfl) ?_
      refine lv_isub hx hb dX9_surrounds_88 ?_
      refine lv_imul hx hb dX9_surrounds_89 ?_
      refine lv_isub hx hb dX9_surrounds_90 ?_
      refine lv_istore (lv' := [(10, .int ((((2 * v48) - (2 * v21)) * (l3_6 - (2 * v32))) - ((l2_6 - (2 * v21)) * ((2 * v64) - (2 * v32))))), (9, .int (2 * v64)), (8, .int (2 * v48)), (7, .int (2 * v32)), (6, .int (2 * v21)), (5, .int l5_6), (4, .int l4_6), (0, .ref (a0 0)), (1, .int l1_6), (2, .int l2_6), (3, .int l3_6)]) hx hb dX9_surrounds_91 hl (by decide) rfl (fun ls hl => ?_)
      refine lv_iload hx hb dX9_surrounds_93 (lv_at hl 1 rfl) ?_
      refine lv_iload hx hb dX9_surrounds_95 (lv_at hl 3 rfl) ?_
      obtain ⟨b97, e97, h⟩ := bnd h
      have hr123 : ∀ (H : Heap) (locs : List Loc) (ls : Array Slot), va_P (dC, dI) vwCl (wMod a0 cy m0) H → va_D A (wMod a0 cy m0) → va_S A s.heap H locs → lv_has ls 12 [(10, .int ((((2 * v48) - (2 * v21)) * (l3_6 - (2 * v32))) - ((l2_6 - (2 * v21)) * ((2 * v64) - (2 * v32))))), (9, .int (2 * v64)), (8, .int (2 * v48)), (7, .int (2 * v32)), (6, .int (2 * v21)), (5, .int l5_6), (4, .int l4_6), (0, .ref (a0 0)), (1, .int l1_6), (2, .int l2_6), (3, .int l3_6)] → W p l e rm_X9_surrounds s mm args below meth cd H locs 0 0 Q (F0 mm 123 ls [.int b97]) := by
        intro H locs ls hP hD hS hl
        refine lv_istore (lv' := [(11, .int b97), (10, .int ((((2 * v48) - (2 * v21)) * (l3_6 - (2 * v32))) - ((l2_6 - (2 * v21)) * ((2 * v64) - (2 * v32))))), (9, .int (2 * v64)), (8, .int (2 * v48)), (7, .int (2 * v32)), (6, .int (2 * v21)), (5, .int l5_6), (4, .int l4_6), (0, .ref (a0 0)), (1, .int l1_6), (2, .int l2_6), (3, .int l3_6)]) hx hb dX9_surrounds_123 hl (by decide) rfl (fun ls hl => ?_)
        refine lv_iload hx hb dX9_surrounds_125 (lv_at hl 4 rfl) ?_
        refine lv_iload_n hx hb dX9_surrounds_127 rfl (lv_at hl 11 rfl) ?_
        obtain ⟨b128, e128, h⟩ := bnd h
        have hr136 : ∀ (H : Heap) (locs : List Loc) (ls : Array Slot), va_P (dC, dI) vwCl (wMod a0 cy m0) H → va_D A (wMod a0 cy m0) → va_S A s.heap H locs → lv_has ls 12 [(11, .int b97), (10, .int ((((2 * v48) - (2 * v21)) * (l3_6 - (2 * v32))) - ((l2_6 - (2 * v21)) * ((2 * v64) - (2 * v32))))), (9, .int (2 * v64)), (8, .int (2 * v48)), (7, .int (2 * v32)), (6, .int (2 * v21)), (5, .int l5_6), (4, .int l4_6), (0, .ref (a0 0)), (1, .int l1_6), (2, .int l2_6), (3, .int l3_6)] → W p l e rm_X9_surrounds s mm args below meth cd H locs 0 0 Q (F0 mm 136 ls [.int b128]) := by
          intro H locs ls hP hD hS hl
          refine lv_iload hx hb dX9_surrounds_136 (lv_at hl 2 rfl) ?_
          refine lv_iload_n hx hb dX9_surrounds_138 rfl (lv_at hl 11 rfl) ?_
          obtain ⟨b139, e139, h⟩ := bnd h
          have hr147 : ∀ (H : Heap) (locs : List Loc) (ls : Array Slot), va_P (dC, dI) vwCl (wMod a0 cy m0) H → va_D A (wMod a0 cy m0) → va_S A s.heap H locs → lv_has ls 12 [(11, .int b97), (10, .int ((((2 * v48) - (2 * v21)) * (l3_6 - (2 * v32))) - ((l2_6 - (2 * v21)) * ((2 * v64) - (2 * v32))))), (9, .int (2 * v64)), (8, .int (2 * v48)), (7, .int (2 * v32)), (6, .int (2 * v21)), (5, .int l5_6), (4, .int l4_6), (0, .ref (a0 0)), (1, .int l1_6), (2, .int l2_6), (3, .int l3_6)] → W p l e rm_X9_surrounds s mm args below meth cd H locs 0 0 Q (F0 mm 147 ls [.int b139, .int b128]) := by
            intro H locs ls hP hD hS hl
            obtain ⟨b147, e147, h⟩ := bnd h
            have hr170 : ∀ (H : Heap) (locs : List Loc) (ls : Array Slot), va_P (dC, dI) vwCl (wMod a0 cy m0) H → va_D A (wMod a0 cy m0) → va_S A s.heap H locs → lv_has ls 12 [(11, .int b97), (10, .int ((((2 * v48) - (2 * v21)) * (l3_6 - (2 * v32))) - ((l2_6 - (2 * v21)) * ((2 * v64) - (2 * v32))))), (9, .int (2 * v64)), (8, .int (2 * v48)), (7, .int (2 * v32)), (6, .int (2 * v21)), (5, .int l5_6), (4, .int l4_6), (0, .ref (a0 0)), (1, .int l1_6), (2, .int l2_6), (3, .int l3_6)] → W p l e rm_X9_surrounds s mm args below meth cd H locs 0 0 Q (F0 mm 170 ls [.int b147]) := by
              intro H locs ls hP hD hS hl
              refine lv_istore (lv' := [(4, .int b147), (11, .int b97), (10, .int ((((2 * v48) - (2 * v21)) * (l3_6 - (2 * v32))) - ((l2_6 - (2 * v21)) * ((2 * v64) - (2 * v32))))), (9, .int (2 * v64)), (8, .int (2 * v48)), (7, .int (2 * v32)), (6, .int (2 * v21)), (5, .int l5_6), (0, .ref (a0 0)), (1, .int l1_6), (2, .int l2_6), (3, .int l3_6)]) hx hb dX9_surrounds_170 hl (by decide) rfl (fun ls hl => ?_)
              refine lv_iinc (v := l5_6 + 1) (lv' := [(5, .int (l5_6 + 1)), (4, .int b147), (11, .int b97), (10, .int ((((2 * v48) - (2 * v21)) * (l3_6 - (2 * v32))) - ((l2_6 - (2 * v21)) * ((2 * v64) - (2 * v32))))), (9, .int (2 * v64)), (8, .int (2 * v48)), (7, .int (2 * v32)), (6, .int (2 * v21)), (0, .ref (a0 0)), (1, .int l1_6), (2, .int l2_6), (3, .int l3_6)]) hx hb dX9_surrounds_172 hl (k := 7) rfl rfl (by decide) rfl (fun ls hl => ?_)
              refine lv_goto (tgt := 6) hx hb dX9_surrounds_175 (by decide) ?_
              exact ih6 (l5_6 + 1) b147 l1_6 l2_6 l3_6 H locs ls h hP hD hS (lv_sub hl [0, 1, 8, 9, 10, 11] rfl)
            have h := e147
            clear e147
            refine lv_icmp_eq (tgt := 168) hx hb dX9_surrounds_147 (by decide) (fun c147 => ?_) (fun c147 => ?_)
            · replace h := if_t h c147
              refine lv_iload hx hb dX9_surrounds_168 (lv_at hl 7 rfl) ?_
              obtain rfl := Option.some.inj h
              exact hr170 H locs ls hP hD hS hl
            replace h := if_f h c147
            refine lv_iload hx hb dX9_surrounds_150 (lv_at hl 0 rfl) ?_
            refine lv_if_eq (tgt := 168) hx hb dX9_surrounds_152 (by decide) (fun c152 => ?_) (fun c152 => ?_)
            · replace h := if_t h c152
              refine lv_iload hx hb dX9_surrounds_168 (lv_at hl 7 rfl) ?_
              obtain rfl := Option.some.inj h
              exact hr170 H locs ls hP hD hS hl
            replace h := if_f h c152
            refine lv_iload hx hb dX9_surrounds_155 (lv_at hl 7 rfl) ?_
            refine lv_if_ne (tgt := 164) hx hb dX9_surrounds_157 (by decide) (fun c157 => ?_) (fun c157 => ?_)
            · replace h := if_f h c157
              refine lv_iconst (v := 0) hx hb dX9_surrounds_164 (by decide) ?_
              refine lv_goto (tgt := 170) hx hb dX9_surrounds_165 (by decide) ?_
              obtain rfl := Option.some.inj h
              exact hr170 H locs ls hP hD hS hl
            replace h := if_t h c157
            refine lv_iconst (v := 1) hx hb dX9_surrounds_160 (by decide) ?_
            refine lv_goto (tgt := 170) hx hb dX9_surrounds_161 (by decide) ?_
            obtain rfl := Option.some.inj h
            exact hr170 H locs ls hP hD hS hl
          have h := e139
          clear e139
          refine lv_icmp_le (tgt := 146) hx hb dX9_surrounds_139 (by decide) (fun c139 => ?_) (fun c139 => ?_)
          · replace h := if_t h c139
            refine lv_iconst (v := 0) hx hb dX9_surrounds_146 (by decide) ?_
            obtain rfl := Option.some.inj h
            exact hr147 H locs ls hP hD hS hl
          replace h := if_f h c139
          refine lv_iconst (v := 1) hx hb dX9_surrounds_142 (by decide) ?_
          refine lv_goto (tgt := 147) hx hb dX9_surrounds_143 (by decide) ?_
          obtain rfl := Option.some.inj h
          exact hr147 H locs ls hP hD hS hl
        have h := e128
        clear e128
        refine lv_icmp_le (tgt := 135) hx hb dX9_surrounds_128 (by decide) (fun c128 => ?_) (fun c128 => ?_)
        · replace h := if_t h c128
          refine lv_iconst (v := 0) hx hb dX9_surrounds_135 (by decide) ?_
          obtain rfl := Option.some.inj h
          exact hr136 H locs ls hP hD hS hl
        replace h := if_f h c128
        refine lv_iconst (v := 1) hx hb dX9_surrounds_131 (by decide) ?_
        refine lv_goto (tgt := 136) hx hb dX9_surrounds_132 (by decide) ?_
        obtain rfl := Option.some.inj h
        exact hr136 H locs ls hP hD hS hl
      have h := e97
      clear e97
      refine lv_icmp_le (tgt := 113) hx hb dX9_surrounds_97 (by decide) (fun c97 => ?_) (fun c97 => ?_)
      · replace h := if_t h c97
        refine lv_iload hx hb dX9_surrounds_113 (lv_at hl 0 rfl) ?_
        refine lv_if_ge (tgt := 122) hx hb dX9_surrounds_115 (by decide) (fun c115 => ?_) (fun c115 => ?_)
        · replace h := if_t h c115
          refine lv_iconst (v := 0) hx hb dX9_surrounds_122 (by decide) ?_
          obtain rfl := Option.some.inj h
          exact hr123 H locs ls hP hD hS hl
        replace h := if_f h c115
        refine lv_iconst (v := 1) hx hb dX9_surrounds_118 (by decide) ?_
        refine lv_goto (tgt := 123) hx hb dX9_surrounds_119 (by decide) ?_
        obtain rfl := Option.some.inj h
        exact hr123 H locs ls hP hD hS hl
      replace h := if_f h c97
      refine lv_iload hx hb dX9_surrounds_100 (lv_at hl 0 rfl) ?_
      refine lv_if_le (tgt := 109) hx hb dX9_surrounds_102 (by decide) (fun c102 => ?_) (fun c102 => ?_)
      · replace h := if_t h c102
        refine lv_iconst (v := 0) hx hb dX9_surrounds_109 (by decide) ?_
        refine lv_goto (tgt := 123) hx hb dX9_surrounds_110 (by decide) ?_
        obtain rfl := Option.some.inj h
        exact hr123 H locs ls hP hD hS hl
      replace h := if_f h c102
      refine lv_iconst (v := 1) hx hb dX9_surrounds_105 (by decide) ?_
      refine lv_goto (tgt := 123) hx hb dX9_surrounds_106 (by decide) ?_
      obtain rfl := Option.some.inj h
      exact hr123 H locs ls hP hD hS hl
  exact hL6 FU 0 0 p1 p2 p3 H locs ls h hP hD hS (lv_sub hl [0, 1, 2, 3, 4, 5] rfl)
def G_X9_whereNotOn_L19  (m0 : Mod) : Nat → Int32 → Int32 → Int32 → Int32 → Option (Int32)
  | 0, _, _, _, _ => none
  | n19 + 1, l4_19, l3_19, l1_19, l2_19 =>
    (rd 85 (m_state m0) 0).bind fun v26 =>
    if v26 ≤ l4_19 then
      some l3_19
    else
      if l3_19 = 2 then
        (G_X9_surrounds m0 l4_19 l1_19 l2_19).bind fun v40 =>
        ((if v40 = 0 then
            some 2
          else
            some 3) : Option (Int32)).bind fun b43 =>
        (G_X9_whereNotOn_L19 m0 n19) (l4_19 + 1) b43 l1_19 l2_19
      else
        some l3_19
def G_X9_whereNotOn (m0 : Mod) (p1 : Int32) (p2 : Int32) : Option (Int32) :=
  (G_X9_surrounds m0 0 p1 p2).bind fun v4 =>
  ((if v4 = 0 then
      some 0
    else
      some 2) : Option (Int32)).bind fun b7 =>
  G_X9_whereNotOn_L19 m0 FU 1 b7 p1 p2
abbrev rm_X9_whereNotOn : Room := { frames := 3, cells := 0, slots := 0, locals := 74 }
theorem hdS_X9_whereNotOn : yX9_whereNotOn.cls ≠ "java/lang/invoke/MethodHandle" ∧ yX9_whereNotOn.cls ≠ "java/lang/invoke/VarHandle" ∧ (parseMethodDescriptor yX9_whereNotOn.desc).map (fun d => d.parameters.length) = some 2 := by decide +kernel
theorem hdV_X9_whereNotOn : yX9_whereNotOn.cls = RX9 ∧ yX9_whereNotOn.cls ≠ "java/lang/invoke/MethodHandle" ∧ yX9_whereNotOn.cls ≠ "java/lang/invoke/VarHandle" ∧ (parseMethodDescriptor yX9_whereNotOn.desc).map (fun d => d.parameters.length) = some 2 := ⟨rfl, hdS_X9_whereNotOn⟩
set_option maxHeartbeats 4000000 in
set_option maxRecDepth 100000 in
theorem c_X9_whereNotOn (l : Launch) (dC : Nat → ClassId) (dI : Nat → Nat → Nat) (cy : Nat → ClassId) (a0 : Nat → Nat) (m0 : Mod) (p1 : Int32) (p2 : Int32) (res : Int32) (h : G_X9_whereNotOn m0 p1 p2 = some res) : CT l (dC, dI) (TY cy) yX9_whereNotOn cX9_whereNotOn 5 (some .int) rm_X9_whereNotOn [.ref (a0 0), .int p1, .int p2] (wMod a0 cy m0) (wMod a0 cy m0) (some (.int res)) := by
  refine CT.mk_i (own := RX9) ⟨by decide, rfl⟩ (Nat.le_of_ble_eq_true rfl) ?_
  intro p e s mm args below meth cd A Q hx hb hml hown htg hN hK hA hP hD hS hE ls hl
  have hl : lv_has ls 5 [(0, .ref (a0 0)), (1, .int p1), (2, .int p2)] := hl
  replace h : _ = some res := h
  unfold G_X9_whereNotOn at h
  obtain ⟨H, hH⟩ : ∃ H, H = s.heap := ⟨_, rfl⟩
  obtain ⟨locs, hlocs⟩ : ∃ locs : List Loc, locs = [] := ⟨_, rfl⟩
  rw [← hlocs] at hS ⊢
  have hS : va_S A s.heap H locs := by rw [hH]; exact hS
  rw [← hH] at hP ⊢
  refine lv_aload_n hx hb dX9_whereNotOn_0 rfl (lv_at hl 0 rfl) ?_
  refine lv_iconst (v := 0) hx hb dX9_whereNotOn_1 (by decide) ?_
  refine lv_iload_n hx hb dX9_whereNotOn_2 rfl (lv_at hl 1 rfl) ?_
  refine lv_iload_n hx hb dX9_whereNotOn_3 rfl (lv_at hl 2 rfl) ?_
  obtain ⟨v4, e4, h⟩ := bnd h
  refine cV (av := [.int 0, .int p1, .int p2]) (rest := []) (st1 := [.int v4]) (k1 := 0) (k2 := 0) (ci := 4) (q0 := 0) hx hb hml hown htg hN hK (c_X9_surrounds l dC dI cy a0 m0 0 p1 p2 v4 e4) (g_V gw988 gw990 gw21 gw63 gw991) hdV_X9_surrounds rfl ⟨⟨Nat.le_of_ble_eq_true rfl, Nat.le_of_ble_eq_true rfl⟩, Nat.le_of_ble_eq_true rfl, Nat.le_of_ble_eq_true rfl⟩ hP hD hS hA ⟨rfl, rfl⟩ rfl [0, 1, 2, 3, 4, 5, 6, 7, 8, 9, 10, 11, 12, 13, 14] [] rfl rfl rfl (by decide) (by decide) hl.1 rfl (Nat.le_of_ble_eq_true rfl) rfl rfl rfl dX9_whereNotOn_4 (fun H locs hP hD hS => ?_)
  have hP : va_P (dC, dI) vwCl (wMod a0 cy m0) H := hP
  have hD : va_D A (wMod a0 cy m0) := hD
  obtain ⟨b7, e7, h⟩ := bnd h
  have hr15 : ∀ (H : Heap) (locs : List Loc) (ls : Array Slot), va_P (dC, dI) vwCl (wMod a0 cy m0) H → va_D A (wMod a0 cy m0) → va_S A s.heap H locs → lv_has ls 5 [(0, .ref (a0 0)), (1, .int p1), (2, .int p2)] → W p l e rm_X9_whereNotOn s mm args below meth cd H locs 0 0 Q (F0 mm 15 ls [.int b7]) := by
    intro H locs ls hP hD hS hl
    refine lv_istore_n (lv' := [(3, .int b7), (0, .ref (a0 0)), (1, .int p1), (2, .int p2)]) hx hb dX9_whereNotOn_15 rfl hl (by decide) rfl (fun ls hl => ?_)
    refine lv_iconst (v := 1) hx hb dX9_whereNotOn_16 (by decide) ?_
    refine lv_istore (lv' := [(4, .int 1), (3, .int b7), (0, .ref (a0 0)), (1, .int p1), (2, .int p2)]) hx hb dX9_whereNotOn_17 hl (by decide) rfl (fun ls hl => ?_)
    have hL19 : ∀ (n19 : Nat) (l4_19 : Int32) (l3_19 : Int32) (l1_19 : Int32) (l2_19 : Int32) (H : Heap) (locs : List Loc) (ls : Array Slot), G_X9_whereNotOn_L19 m0 n19 l4_19 l3_19 l1_19 l2_19 = some res → va_P (dC, dI) vwCl (wMod a0 cy m0) H → va_D A (wMod a0 cy m0) → va_S A s.heap H locs → lv_has ls 5 [(4, .int l4_19), (3, .int l3_19), (0, .ref (a0 0)), (1, .int l1_19), (2, .int l2_19)] → W p l e rm_X9_whereNotOn s mm args below meth cd H locs 0 0 Q (F0 mm 19 ls []) := by
      intro n19
      induction n19 with
      | zero => intro l4_19 l3_19 l1_19 l2_19 H locs ls h; exact absurd h (by simp [G_X9_whereNotOn_L19])
      | succ n19 ih19 =>
        intro l4_19 l3_19 l1_19 l2_19 H locs ls h hP hD hS hl
        rw [G_X9_whereNotOn_L19] at h
        refine lv_iload hx hb dX9_whereNotOn_19 (lv_at hl 0 rfl) ?_
        refine lv_aload_n hx hb dX9_whereNotOn_21 rfl (lv_at hl 2 rfl) ?_
        refine va_get (D := (dC, dI)) (ci := 4) (v := .ref (a0 1)) (C := RX9) (T := TX9) (N := 18) hx hb htg inX9 hown hK hP 0 rfl rfl 1 (by decide) (htg _ gw851) (fun _ h9 => h9) rfl dX9_whereNotOn_22 ?_
        refine lv_iconst (v := 0) hx hb dX9_whereNotOn_25 (by decide) ?_
        obtain ⟨v26, e26, h⟩ := bnd h
        refine x_iald (v := v26) hx hb hK hP 1 0 rfl rfl e26 dX9_whereNotOn_26 ?_
        refine lv_icmp_ge (tgt := 58) hx hb dX9_whereNotOn_27 (by decide) (fun c27 => ?_) (fun c27 => ?_)
        · replace h := if_t h c27
          refine lv_iload_n hx hb dX9_whereNotOn_58 rfl (lv_at hl 1 rfl) ?_
          obtain rfl := Option.some.inj h
          exact hE H locs 59 ls _ hP hD hS rfl dX9_whereNotOn_59
        replace h := if_f h c27
        refine lv_iload_n hx hb dX9_whereNotOn_30 rfl (lv_at hl 1 rfl) ?_
        refine lv_iconst (v := 2) hx hb dX9_whereNotOn_31 (by decide) ?_
        refine lv_icmp_ne (tgt := 58) hx hb dX9_whereNotOn_32 (by decide) (fun c32 => ?_) (fun c32 => ?_)
        · replace h := if_f h c32
          refine lv_iload_n hx hb dX9_whereNotOn_58 rfl (lv_at hl 1 rfl) ?_
          obtain rfl := Option.some.inj h
          exact hE H locs 59 ls _ hP hD hS rfl dX9_whereNotOn_59
        replace h := if_t h c32
        refine lv_aload_n hx hb dX9_whereNotOn_35 rfl (lv_at hl 2 rfl) ?_
        refine lv_iload hx hb dX9_whereNotOn_36 (lv_at hl 0 rfl) ?_
        refine lv_iload_n hx hb dX9_whereNotOn_38 rfl (lv_at hl 3 rfl) ?_
        refine lv_iload_n hx hb dX9_whereNotOn_39 rfl (lv_at hl 4 rfl) ?_
        obtain ⟨v40, e40, h⟩ := bnd h
        refine cV (av := [.int l4_19, .int l1_19, .int l2_19]) (rest := []) (st1 := [.int v40]) (k1 := 0) (k2 := 0) (ci := 4) (q0 := 0) hx hb hml hown htg hN hK (c_X9_surrounds l dC dI cy a0 m0 l4_19 l1_19 l2_19 v40 e40) (g_V gw988 gw990 gw21 gw63 gw991) hdV_X9_surrounds rfl ⟨⟨Nat.le_of_ble_eq_true rfl, Nat.le_of_ble_eq_true rfl⟩, Nat.le_of_ble_eq_true rfl, Nat.le_of_ble_eq_true rfl⟩ hP hD hS hA ⟨rfl, rfl⟩ rfl [0, 1, 2, 3, 4, 5, 6, 7, 8, 9, 10, 11, 12, 13, 14] [] rfl rfl rfl (by decide) (by decide) hl.1 rfl (Nat.le_of_ble_eq_true rfl) rfl rfl rfl dX9_whereNotOn_40 (fun H locs hP hD hS => ?_)
        have hP : va_P (dC, dI) vwCl (wMod a0 cy m0) H := hP
        have hD : va_D A (wMod a0 cy m0) := hD
        obtain ⟨b43, e43, h⟩ := bnd h
        have hr51 : ∀ (H : Heap) (locs : List Loc) (ls : Array Slot), va_P (dC, dI) vwCl (wMod a0 cy m0) H → va_D A (wMod a0 cy m0) → va_S A s.heap H locs → lv_has ls 5 [(4, .int l4_19), (3, .int l3_19), (0, .ref (a0 0)), (1, .int l1_19), (2, .int l2_19)] → W p l e rm_X9_whereNotOn s mm args below meth cd H locs 0 0 Q (F0 mm 51 ls [.int b43]) := by
          intro H locs ls hP hD hS hl
          refine lv_istore_n (lv' := [(3, .int b43), (4, .int l4_19), (0, .ref (a0 0)), (1, .int l1_19), (2, .int l2_19)]) hx hb dX9_whereNotOn_51 rfl hl (by decide) rfl (fun ls hl => ?_)
          refine lv_iinc (v := l4_19 + 1) (lv' := [(4, .int (l4_19 + 1)), (3, .int b43), (0, .ref (a0 0)), (1, .int l1_19), (2, .int l2_19)]) hx hb dX9_whereNotOn_52 hl (k := 1) rfl rfl (by decide) rfl (fun ls hl => ?_)
          refine lv_goto (tgt := 19) hx hb dX9_whereNotOn_55 (by decide) ?_
          exact ih19 (l4_19 + 1) b43 l1_19 l2_19 H locs ls h hP hD hS (lv_sub hl [0, 1, 2, 3, 4] rfl)
        have h := e43
        clear e43
        refine lv_if_eq (tgt := 50) hx hb dX9_whereNotOn_43 (by decide) (fun c43 => ?_) (fun c43 => ?_)
        · replace h := if_t h c43
          refine lv_iconst (v := 2) hx hb dX9_whereNotOn_50 (by decide) ?_
          obtain rfl := Option.some.inj h
          exact hr51 H locs ls hP hD hS hl
        replace h := if_f h c43
        refine lv_iconst (v := 3) hx hb dX9_whereNotOn_46 (by decide) ?_
        refine lv_goto (tgt := 51) hx hb dX9_whereNotOn_47 (by decide) ?_
        obtain rfl := Option.some.inj h
        exact hr51 H locs ls hP hD hS hl
    exact hL19 FU 1 b7 p1 p2 H locs ls h hP hD hS (lv_sub hl [0, 1, 2, 3, 4] rfl)
  have h := e7
  clear e7
  refine lv_if_eq (tgt := 14) hx hb dX9_whereNotOn_7 (by decide) (fun c7 => ?_) (fun c7 => ?_)
  · replace h := if_t h c7
    refine lv_iconst (v := 0) hx hb dX9_whereNotOn_14 (by decide) ?_
    obtain rfl := Option.some.inj h
    exact hr15 H locs ls hP hD hS hl
  replace h := if_f h c7
  refine lv_iconst (v := 2) hx hb dX9_whereNotOn_10 (by decide) ?_
  refine lv_goto (tgt := 15) hx hb dX9_whereNotOn_11 (by decide) ?_
  obtain rfl := Option.some.inj h
  exact hr15 H locs ls hP hD hS hl
def G_X9_where_L15 (r2 : Int32 → Int32 → Int32 → Option (Int32)) (m0 : Mod) : Nat → Int32 → Int32 → Int32 → Int32 → Option (Int32)
  | 0, _, _, _, _ => none
  | n15 + 1, l4_15, l3_15, l1_15, l2_15 =>
    (G_X9_many m0 l3_15).bind fun v19 =>
    if v19 ≤ l4_15 then
      r2 (l3_15 + 1) l1_15 l2_15
    else
      (G_X9_next m0 l3_15 l4_15).bind fun v29 =>
      (G_X9_x m0 l3_15 l4_15).bind fun v38 =>
      (G_X9_y m0 l3_15 l4_15).bind fun v45 =>
      (G_X9_x m0 l3_15 v29).bind fun v52 =>
      (G_X9_y m0 l3_15 v29).bind fun v59 =>
      (G_X9_isOn v38 v45 v52 v59 l1_15 l2_15).bind fun v64 =>
      if v64 = 0 then
        (G_X9_where_L15 r2 m0 n15) (l4_15 + 1) l3_15 l1_15 l2_15
      else
        some 1
def G_X9_where_L2  (m0 : Mod) : Nat → Int32 → Int32 → Int32 → Option (Int32)
  | 0, _, _, _ => none
  | n2 + 1, l3_2, l1_2, l2_2 =>
    (rd 85 (m_state m0) 0).bind fun v8 =>
    if v8 ≤ l3_2 then
      (G_X9_whereNotOn m0 (2 * l1_2) (2 * l2_2)).bind fun v91 =>
      some v91
    else
      G_X9_where_L15 (G_X9_where_L2 m0 n2) m0 FU 0 l3_2 l1_2 l2_2
def G_X9_where (m0 : Mod) (p1 : Int32) (p2 : Int32) : Option (Int32) :=
  G_X9_where_L2 m0 FU 0 p1 p2
abbrev rm_X9_where : Room := { frames := 4, cells := 0, slots := 0, locals := 98 }
theorem hdS_X9_where : yX9_where.cls ≠ "java/lang/invoke/MethodHandle" ∧ yX9_where.cls ≠ "java/lang/invoke/VarHandle" ∧ (parseMethodDescriptor yX9_where.desc).map (fun d => d.parameters.length) = some 2 := by decide +kernel
theorem hdV_X9_where : yX9_where.cls = RX9 ∧ yX9_where.cls ≠ "java/lang/invoke/MethodHandle" ∧ yX9_where.cls ≠ "java/lang/invoke/VarHandle" ∧ (parseMethodDescriptor yX9_where.desc).map (fun d => d.parameters.length) = some 2 := ⟨rfl, hdS_X9_where⟩
set_option maxHeartbeats 4000000 in
set_option maxRecDepth 100000 in
theorem c_X9_where (l : Launch) (dC : Nat → ClassId) (dI : Nat → Nat → Nat) (cy : Nat → ClassId) (a0 : Nat → Nat) (m0 : Mod) (p1 : Int32) (p2 : Int32) (res : Int32) (h : G_X9_where m0 p1 p2 = some res) : CT l (dC, dI) (TY cy) yX9_where cX9_where 6 (some .int) rm_X9_where [.ref (a0 0), .int p1, .int p2] (wMod a0 cy m0) (wMod a0 cy m0) (some (.int res)) := by
  refine CT.mk_i (own := RX9) ⟨by decide, rfl⟩ (Nat.le_of_ble_eq_true rfl) ?_
  intro p e s mm args below meth cd A Q hx hb hml hown htg hN hK hA hP hD hS hE ls hl
  have hl : lv_has ls 6 [(0, .ref (a0 0)), (1, .int p1), (2, .int p2)] := hl
  replace h : _ = some res := h
  unfold G_X9_where at h
  obtain ⟨H, hH⟩ : ∃ H, H = s.heap := ⟨_, rfl⟩
  obtain ⟨locs, hlocs⟩ : ∃ locs : List Loc, locs = [] := ⟨_, rfl⟩
  rw [← hlocs] at hS ⊢
  have hS : va_S A s.heap H locs := by rw [hH]; exact hS
  rw [← hH] at hP ⊢
  refine lv_iconst (v := 0) hx hb dX9_where_0 (by decide) ?_
  refine lv_istore_n (lv' := [(3, .int 0), (0, .ref (a0 0)), (1, .int p1), (2, .int p2)]) hx hb dX9_where_1 rfl hl (by decide) rfl (fun ls hl => ?_)
  have hL2 : ∀ (n2 : Nat) (l3_2 : Int32) (l1_2 : Int32) (l2_2 : Int32) (H : Heap) (locs : List Loc) (ls : Array Slot), G_X9_where_L2 m0 n2 l3_2 l1_2 l2_2 = some res → va_P (dC, dI) vwCl (wMod a0 cy m0) H → va_D A (wMod a0 cy m0) → va_S A s.heap H locs → lv_has ls 6 [(3, .int l3_2), (0, .ref (a0 0)), (1, .int l1_2), (2, .int l2_2)] → W p l e rm_X9_where s mm args below meth cd H locs 0 0 Q (F0 mm 2 ls []) := by
    intro n2
    induction n2 with
    | zero => intro l3_2 l1_2 l2_2 H locs ls h; exact absurd h (by simp [G_X9_where_L2])
    | succ n2 ih2 =>
      intro l3_2 l1_2 l2_2 H locs ls h hP hD hS hl
      rw [G_X9_where_L2] at h
      refine lv_iload_n hx hb dX9_where_2 rfl (lv_at hl 0 rfl) ?_
      refine lv_aload_n hx hb dX9_where_3 rfl (lv_at hl 1 rfl) ?_
      refine va_get (D := (dC, dI)) (ci := 4) (v := .ref (a0 1)) (C := RX9) (T := TX9) (N := 18) hx hb htg inX9 hown hK hP 0 rfl rfl 1 (by decide) (htg _ gw851) (fun _ h9 => h9) rfl dX9_where_4 ?_
      refine lv_iconst (v := 0) hx hb dX9_where_7 (by decide) ?_
      obtain ⟨v8, e8, h⟩ := bnd h
      refine x_iald (v := v8) hx hb hK hP 1 0 rfl rfl e8 dX9_where_8 ?_
      refine lv_icmp_ge (tgt := 84) hx hb dX9_where_9 (by decide) (fun c9 => ?_) (fun c9 => ?_)
      · replace h := if_t h c9
        refine lv_aload_n hx hb dX9_where_84 rfl (lv_at hl 1 rfl) ?_
        refine lv_iconst (v := 2) hx hb dX9_where_85 (by decide) ?_
        refine lv_iload_n hx hb dX9_where_86 rfl (lv_at hl 2 rfl) ?_
        refine lv_imul hx hb dX9_where_87 ?_
        refine lv_iconst (v := 2) hx hb dX9_where_88 (by decide) ?_
        refine lv_iload_n hx hb dX9_where_89 rfl (lv_at hl 3 rfl) ?_
        refine lv_imul hx hb dX9_where_90 ?_
        obtain ⟨v91, e91, h⟩ := bnd h
        refine cV (av := [.int (2 * l1_2), .int (2 * l2_2)]) (rest := []) (st1 := [.int v91]) (k1 := 0) (k2 := 0) (ci := 4) (q0 := 0) hx hb hml hown htg hN hK (c_X9_whereNotOn l dC dI cy a0 m0 (2 * l1_2) (2 * l2_2) v91 e91) (g_V gw1038 gw1040 gw30 gw63 gw1041) hdV_X9_whereNotOn rfl ⟨⟨Nat.le_of_ble_eq_true rfl, Nat.le_of_ble_eq_true rfl⟩, Nat.le_of_ble_eq_true rfl, Nat.le_of_ble_eq_true rfl⟩ hP hD hS hA ⟨rfl, rfl⟩ rfl [0, 1, 2, 3, 4, 5, 6, 7, 8, 9, 10, 11, 12, 13, 14] [] rfl rfl rfl (by decide) (by decide) hl.1 rfl (Nat.le_of_ble_eq_true rfl) rfl rfl rfl dX9_where_91 (fun H locs hP hD hS => ?_)
        have hP : va_P (dC, dI) vwCl (wMod a0 cy m0) H := hP
        have hD : va_D A (wMod a0 cy m0) := hD
        obtain rfl := Option.some.inj h
        exact hE H locs 94 ls _ hP hD hS rfl dX9_where_94
      replace h := if_f h c9
      refine lv_iconst (v := 0) hx hb dX9_where_12 (by decide) ?_
      refine lv_istore (lv' := [(4, .int 0), (3, .int l3_2), (0, .ref (a0 0)), (1, .int l1_2), (2, .int l2_2)]) hx hb dX9_where_13 hl (by decide) rfl (fun ls hl => ?_)
      have hL15 : ∀ (n15 : Nat) (l4_15 : Int32) (l3_15 : Int32) (l1_15 : Int32) (l2_15 : Int32) (H : Heap) (locs : List Loc) (ls : Array Slot), G_X9_where_L15 (G_X9_where_L2 m0 n2) m0 n15 l4_15 l3_15 l1_15 l2_15 = some res → va_P (dC, dI) vwCl (wMod a0 cy m0) H → va_D A (wMod a0 cy m0) → va_S A s.heap H locs → lv_has ls 6 [(4, .int l4_15), (3, .int l3_15), (0, .ref (a0 0)), (1, .int l1_15), (2, .int l2_15)] → W p l e rm_X9_where s mm args below meth cd H locs 0 0 Q (F0 mm 15 ls []) := by
        intro n15
        induction n15 with
        | zero => intro l4_15 l3_15 l1_15 l2_15 H locs ls h; exact absurd h (by simp [G_X9_where_L15])
        | succ n15 ih15 =>
          intro l4_15 l3_15 l1_15 l2_15 H locs ls h hP hD hS hl
          rw [G_X9_where_L15] at h
          refine lv_iload hx hb dX9_where_15 (lv_at hl 0 rfl) ?_
          refine lv_aload_n hx hb dX9_where_17 rfl (lv_at hl 2 rfl) ?_
          refine lv_iload_n hx hb dX9_where_18 rfl (lv_at hl 1 rfl) ?_
          obtain ⟨v19, e19, h⟩ := bnd h
          refine cV (av := [.int l3_15]) (rest := [.int l4_15]) (st1 := [.int v19, .int l4_15]) (k1 := 0) (k2 := 0) (ci := 4) (q0 := 0) hx hb hml hown htg hN hK (c_X9_many l dC dI cy a0 m0 l3_15 v19 e19) (g_V gw935 gw937 gw10 gw63 gw938) hdV_X9_many rfl ⟨⟨Nat.le_of_ble_eq_true rfl, Nat.le_of_ble_eq_true rfl⟩, Nat.le_of_ble_eq_true rfl, Nat.le_of_ble_eq_true rfl⟩ hP hD hS hA ⟨rfl, rfl⟩ rfl [0, 1, 2, 3, 4, 5, 6, 7, 8, 9, 10, 11, 12, 13, 14] [] rfl rfl rfl (by decide) (by decide) hl.1 rfl (Nat.le_of_ble_eq_true rfl) rfl rfl rfl dX9_where_19 (fun H locs hP hD hS => ?_)
          have hP : va_P (dC, dI) vwCl (wMod a0 cy m0) H := hP
          have hD : va_D A (wMod a0 cy m0) := hD
          refine lv_icmp_ge (tgt := 78) hx hb dX9_where_22 (by decide) (fun c22 => ?_) (fun c22 => ?_)
          · replace h := if_t h c22
            refine lv_iinc (v := l3_15 + 1) (lv' := [(3, .int (l3_15 + 1)), (4, .int l4_15), (0, .ref (a0 0)), (1, .int l1_15), (2, .int l2_15)]) hx hb dX9_where_78 hl (k := 1) rfl rfl (by decide) rfl (fun ls hl => ?_)
            refine lv_goto (tgt := 2) hx hb dX9_where_81 (by decide) ?_
            exact ih2 (l3_15 + 1) l1_15 l2_15 H locs ls h hP hD hS (lv_sub hl [0, 2, 3, 4] rfl)
          replace h := if_f h c22
          refine lv_aload_n hx hb dX9_where_25 rfl (lv_at hl 2 rfl) ?_
          refine lv_iload_n hx hb dX9_where_26 rfl (lv_at hl 1 rfl) ?_
          refine lv_iload hx hb dX9_where_27 (lv_at hl 0 rfl) ?_
          obtain ⟨v29, e29, h⟩ := bnd h
          refine cV (av := [.int l3_15, .int l4_15]) (rest := []) (st1 := [.int v29]) (k1 := 0) (k2 := 0) (ci := 4) (q0 := 0) hx hb hml hown htg hN hK (c_X9_next l dC dI cy a0 m0 l3_15 l4_15 v29 e29) (g_V gw955 gw957 gw15 gw63 gw958) hdV_X9_next rfl ⟨⟨Nat.le_of_ble_eq_true rfl, Nat.le_of_ble_eq_true rfl⟩, Nat.le_of_ble_eq_true rfl, Nat.le_of_ble_eq_true rfl⟩ hP hD hS hA ⟨rfl, rfl⟩ rfl [0, 1, 2, 3, 4, 5, 6, 7, 8, 9, 10, 11, 12, 13, 14] [] rfl rfl rfl (by decide) (by decide) hl.1 rfl (Nat.le_of_ble_eq_true rfl) rfl rfl rfl dX9_where_29 (fun H locs hP hD hS => ?_)
          have hP : va_P (dC, dI) vwCl (wMod a0 cy m0) H := hP
          have hD : va_D A (wMod a0 cy m0) := hD
          refine lv_istore (lv' := [(5, .int v29), (4, .int l4_15), (3, .int l3_15), (0, .ref (a0 0)), (1, .int l1_15), (2, .int l2_15)]) hx hb dX9_where_32 hl (by decide) rfl (fun ls hl => ?_)
          refine lv_aload_n hx hb dX9_where_34 rfl (lv_at hl 3 rfl) ?_
          refine lv_iload_n hx hb dX9_where_35 rfl (lv_at hl 2 rfl) ?_
          refine lv_iload hx hb dX9_where_36 (lv_at hl 1 rfl) ?_
          obtain ⟨v38, e38, h⟩ := bnd h
          refine cV (av := [.int l3_15, .int l4_15]) (rest := []) (st1 := [.int v38]) (k1 := 0) (k2 := 0) (ci := 4) (q0 := 0) hx hb hml hown htg hN hK (c_X9_x l dC dI cy a0 m0 l3_15 l4_15 v38 e38) (g_V gw947 gw949 gw13 gw63 gw950) hdV_X9_x rfl ⟨⟨Nat.le_of_ble_eq_true rfl, Nat.le_of_ble_eq_true rfl⟩, Nat.le_of_ble_eq_true rfl, Nat.le_of_ble_eq_true rfl⟩ hP hD hS hA ⟨rfl, rfl⟩ rfl [0, 1, 2, 3, 4, 5, 6, 7, 8, 9, 10, 11, 12, 13, 14] [] rfl rfl rfl (by decide) (by decide) hl.1 rfl (Nat.le_of_ble_eq_true rfl) rfl rfl rfl dX9_where_38 (fun H locs hP hD hS => ?_)
          have hP : va_P (dC, dI) vwCl (wMod a0 cy m0) H := hP
          have hD : va_D A (wMod a0 cy m0) := hD
          refine lv_aload_n hx hb dX9_where_41 rfl (lv_at hl 3 rfl) ?_
          refine lv_iload_n hx hb dX9_where_42 rfl (lv_at hl 2 rfl) ?_
          refine lv_iload hx hb dX9_where_43 (lv_at hl 1 rfl) ?_
          obtain ⟨v45, e45, h⟩ := bnd h
          refine cV (av := [.int l3_15, .int l4_15]) (rest := [.int v38]) (st1 := [.int v45, .int v38]) (k1 := 0) (k2 := 0) (ci := 4) (q0 := 0) hx hb hml hown htg hN hK (c_X9_y l dC dI cy a0 m0 l3_15 l4_15 v45 e45) (g_V gw951 gw953 gw14 gw63 gw954) hdV_X9_y rfl ⟨⟨Nat.le_of_ble_eq_true rfl, Nat.le_of_ble_eq_true rfl⟩, Nat.le_of_ble_eq_true rfl, Nat.le_of_ble_eq_true rfl⟩ hP hD hS hA ⟨rfl, rfl⟩ rfl [0, 1, 2, 3, 4, 5, 6, 7, 8, 9, 10, 11, 12, 13, 14] [] rfl rfl rfl (by decide) (by decide) hl.1 rfl (Nat.le_of_ble_eq_true rfl) rfl rfl rfl dX9_where_45 (fun H locs hP hD hS => ?_)
          have hP : va_P (dC, dI) vwCl (wMod a0 cy m0) H := hP
          have hD : va_D A (wMod a0 cy m0) := hD
          refine lv_aload_n hx hb dX9_where_48 rfl (lv_at hl 3 rfl) ?_
          refine lv_iload_n hx hb dX9_where_49 rfl (lv_at hl 2 rfl) ?_
          refine lv_iload hx hb dX9_where_50 (lv_at hl 0 rfl) ?_
          obtain ⟨v52, e52, h⟩ := bnd h
          refine cV (av := [.int l3_15, .int v29]) (rest := [.int v45, .int v38]) (st1 := [.int v52, .int v45, .int v38]) (k1 := 0) (k2 := 0) (ci := 4) (q0 := 0) hx hb hml hown htg hN hK (c_X9_x l dC dI cy a0 m0 l3_15 v29 v52 e52) (g_V gw947 gw949 gw13 gw63 gw950) hdV_X9_x rfl ⟨⟨Nat.le_of_ble_eq_true rfl, Nat.le_of_ble_eq_true rfl⟩, Nat.le_of_ble_eq_true rfl, Nat.le_of_ble_eq_true rfl⟩ hP hD hS hA ⟨rfl, rfl⟩ rfl [0, 1, 2, 3, 4, 5, 6, 7, 8, 9, 10, 11, 12, 13, 14] [] rfl rfl rfl (by decide) (by decide) hl.1 rfl (Nat.le_of_ble_eq_true rfl) rfl rfl rfl dX9_where_52 (fun H locs hP hD hS => ?_)
          have hP : va_P (dC, dI) vwCl (wMod a0 cy m0) H := hP
          have hD : va_D A (wMod a0 cy m0) := hD
          refine lv_aload_n hx hb dX9_where_55 rfl (lv_at hl 3 rfl) ?_
          refine lv_iload_n hx hb dX9_where_56 rfl (lv_at hl 2 rfl) ?_
          refine lv_iload hx hb dX9_where_57 (lv_at hl 0 rfl) ?_
          obtain ⟨v59, e59, h⟩ := bnd h
          refine cV (av := [.int l3_15, .int v29]) (rest := [.int v52, .int v45, .int v38]) (st1 := [.int v59, .int v52, .int v45, .int v38]) (k1 := 0) (k2 := 0) (ci := 4) (q0 := 0) hx hb hml hown htg hN hK (c_X9_y l dC dI cy a0 m0 l3_15 v29 v59 e59) (g_V gw951 gw953 gw14 gw63 gw954) hdV_X9_y rfl ⟨⟨Nat.le_of_ble_eq_true rfl, Nat.le_of_ble_eq_true rfl⟩, Nat.le_of_ble_eq_true rfl, Nat.le_of_ble_eq_true rfl⟩ hP hD hS hA ⟨rfl, rfl⟩ rfl [0, 1, 2, 3, 4, 5, 6, 7, 8, 9, 10, 11, 12, 13, 14] [] rfl rfl rfl (by decide) (by decide) hl.1 rfl (Nat.le_of_ble_eq_true rfl) rfl rfl rfl dX9_where_59 (fun H locs hP hD hS => ?_)
          have hP : va_P (dC, dI) vwCl (wMod a0 cy m0) H := hP
          have hD : va_D A (wMod a0 cy m0) := hD
          refine lv_iload_n hx hb dX9_where_62 rfl (lv_at hl 4 rfl) ?_
          refine lv_iload_n hx hb dX9_where_63 rfl (lv_at hl 5 rfl) ?_
          obtain ⟨v64, e64, h⟩ := bnd h
          refine cS (av := [.int v38, .int v45, .int v52, .int v59, .int l1_15, .int l2_15]) (rest := []) (st1 := [.int v64]) (k1 := 0) (k2 := 0) hx hb hml hown htg hN hK (c_X9_isOn l dC dI cy   v38 v45 v52 v59 l1_15 l2_15 v64 e64) (g_S gw981 gw982 gw63 gw983) hdS_X9_isOn rfl ⟨⟨Nat.le_of_ble_eq_true rfl, Nat.le_of_ble_eq_true rfl⟩, Nat.le_of_ble_eq_true rfl, Nat.le_of_ble_eq_true rfl⟩ hP hD hS hA [] [0, 1, 2, 3, 4, 5, 6, 7, 8, 9, 10, 11, 12, 13, 14] rfl rfl rfl (by decide) (by decide) hl.1 rfl (Nat.le_of_ble_eq_true rfl) rfl rfl rfl dX9_where_64 (fun H locs hP hD hS => ?_)
          obtain ⟨hP, hD⟩ := x_perm (ws' := wMod a0 cy m0) hP hD [0, 1, 2, 3, 4, 5, 6, 7, 8, 9, 10, 11, 12, 13, 14] (by decide) rfl rfl
          refine lv_if_eq (tgt := 72) hx hb dX9_where_67 (by decide) (fun c67 => ?_) (fun c67 => ?_)
          · replace h := if_t h c67
            refine lv_iinc (v := l4_15 + 1) (lv' := [(4, .int (l4_15 + 1)), (5, .int v29), (3, .int l3_15), (0, .ref (a0 0)), (1, .int l1_15), (2, .int l2_15)]) hx hb dX9_where_72 hl (k := 1) rfl rfl (by decide) rfl (fun ls hl => ?_)
            refine lv_goto (tgt := 15) hx hb dX9_where_75 (by decide) ?_
            exact ih15 (l4_15 + 1) l3_15 l1_15 l2_15 H locs ls h hP hD hS (lv_sub hl [0, 2, 3, 4, 5] rfl)
          replace h := if_f h c67
          refine lv_iconst (v := 1) hx hb dX9_where_70 (by decide) ?_
          obtain rfl := Option.some.inj h
          exact hE H locs 71 ls _ hP hD hS rfl dX9_where_71
      exact hL15 FU 0 l3_2 l1_2 l2_2 H locs ls h hP hD hS (lv_sub hl [0, 1, 2, 3, 4] rfl)
  exact hL2 FU 0 p1 p2 H locs ls h hP hD hS (lv_sub hl [0, 1, 2, 3] rfl)
def G_X9_pointsIn_L5  (m0 : Mod) : Nat → Int32 → Int32 → Int32 → Int32 → Option (Int32)
  | 0, _, _, _, _ => none
  | n5 + 1, l4_5, l3_5, l1_5, l2_5 =>
    if 15 < l4_5 then
      some l3_5
    else
      (G_X9_where m0 l4_5 l1_5).bind fun v16 =>
      ((if v16 = 2 then
          some 1
        else
          if l2_5 = 0 then
            some 0
          else
            if v16 = 1 then
              some 1
            else
              some 0) : Option (Int32)).bind fun b25 =>
      (G_X9_pointsIn_L5 m0 n5) (l4_5 + 1) (l3_5 + b25) l1_5 l2_5
def G_X9_pointsIn (m0 : Mod) (p1 : Int32) (p2 : Int32) : Option (Int32) :=
  G_X9_pointsIn_L5 m0 FU 0 0 p1 p2
abbrev rm_X9_pointsIn : Room := { frames := 5, cells := 0, slots := 0, locals := 123 }
theorem hdS_X9_pointsIn : yX9_pointsIn.cls ≠ "java/lang/invoke/MethodHandle" ∧ yX9_pointsIn.cls ≠ "java/lang/invoke/VarHandle" ∧ (parseMethodDescriptor yX9_pointsIn.desc).map (fun d => d.parameters.length) = some 2 := by decide +kernel
theorem hdV_X9_pointsIn : yX9_pointsIn.cls = RX9 ∧ yX9_pointsIn.cls ≠ "java/lang/invoke/MethodHandle" ∧ yX9_pointsIn.cls ≠ "java/lang/invoke/VarHandle" ∧ (parseMethodDescriptor yX9_pointsIn.desc).map (fun d => d.parameters.length) = some 2 := ⟨rfl, hdS_X9_pointsIn⟩
set_option maxHeartbeats 4000000 in
set_option maxRecDepth 100000 in
theorem c_X9_pointsIn (l : Launch) (dC : Nat → ClassId) (dI : Nat → Nat → Nat) (cy : Nat → ClassId) (a0 : Nat → Nat) (m0 : Mod) (p1 : Int32) (p2 : Int32) (res : Int32) (h : G_X9_pointsIn m0 p1 p2 = some res) : CT l (dC, dI) (TY cy) yX9_pointsIn cX9_pointsIn 6 (some .int) rm_X9_pointsIn [.ref (a0 0), .int p1, .int p2] (wMod a0 cy m0) (wMod a0 cy m0) (some (.int res)) := by
  refine CT.mk_i (own := RX9) ⟨by decide, rfl⟩ (Nat.le_of_ble_eq_true rfl) ?_
  intro p e s mm args below meth cd A Q hx hb hml hown htg hN hK hA hP hD hS hE ls hl
  have hl : lv_has ls 6 [(0, .ref (a0 0)), (1, .int p1), (2, .int p2)] := hl
  replace h : _ = some res := h
  unfold G_X9_pointsIn at h
  obtain ⟨H, hH⟩ : ∃ H, H = s.heap := ⟨_, rfl⟩
  obtain ⟨locs, hlocs⟩ : ∃ locs : List Loc, locs = [] := ⟨_, rfl⟩
  rw [← hlocs] at hS ⊢
  have hS : va_S A s.heap H locs := by rw [hH]; exact hS
  rw [← hH] at hP ⊢
  refine lv_iconst (v := 0) hx hb dX9_pointsIn_0 (by decide) ?_
  refine lv_istore_n (lv' := [(3, .int 0), (0, .ref (a0 0)), (1, .int p1), (2, .int p2)]) hx hb dX9_pointsIn_1 rfl hl (by decide) rfl (fun ls hl => ?_)
  refine lv_iconst (v := 0) hx hb dX9_pointsIn_2 (by decide) ?_
  refine lv_istore (lv' := [(4, .int 0), (3, .int 0), (0, .ref (a0 0)), (1, .int p1), (2, .int p2)]) hx hb dX9_pointsIn_3 hl (by decide) rfl (fun ls hl => ?_)
  have hL5 : ∀ (n5 : Nat) (l4_5 : Int32) (l3_5 : Int32) (l1_5 : Int32) (l2_5 : Int32) (H : Heap) (locs : List Loc) (ls : Array Slot), G_X9_pointsIn_L5 m0 n5 l4_5 l3_5 l1_5 l2_5 = some res → va_P (dC, dI) vwCl (wMod a0 cy m0) H → va_D A (wMod a0 cy m0) → va_S A s.heap H locs → lv_has ls 6 [(4, .int l4_5), (3, .int l3_5), (0, .ref (a0 0)), (1, .int l1_5), (2, .int l2_5)] → W p l e rm_X9_pointsIn s mm args below meth cd H locs 0 0 Q (F0 mm 5 ls []) := by
    intro n5
    induction n5 with
    | zero => intro l4_5 l3_5 l1_5 l2_5 H locs ls h; exact absurd h (by simp [G_X9_pointsIn_L5])
    | succ n5 ih5 =>
      intro l4_5 l3_5 l1_5 l2_5 H locs ls h hP hD hS hl
      rw [G_X9_pointsIn_L5] at h
      refine lv_iload hx hb dX9_pointsIn_5 (lv_at hl 0 rfl) ?_
      refine lv_bipush (v := 15) hx hb dX9_pointsIn_7 (by decide) ?_
      refine lv_icmp_gt (tgt := 51) hx hb dX9_pointsIn_9 (by decide) (fun c9 => ?_) (fun c9 => ?_)
      · replace h := if_t h c9
        refine lv_iload_n hx hb dX9_pointsIn_51 rfl (lv_at hl 1 rfl) ?_
        obtain rfl := Option.some.inj h
        exact hE H locs 52 ls _ hP hD hS rfl dX9_pointsIn_52
      replace h := if_f h c9
      refine lv_aload_n hx hb dX9_pointsIn_12 rfl (lv_at hl 2 rfl) ?_
      refine lv_iload hx hb dX9_pointsIn_13 (lv_at hl 0 rfl) ?_
      refine lv_iload_n hx hb dX9_pointsIn_15 rfl (lv_at hl 3 rfl) ?_
      obtain ⟨v16, e16, h⟩ := bnd h
      refine cV (av := [.int l4_5, .int l1_5]) (rest := []) (st1 := [.int v16]) (k1 := 0) (k2 := 0) (ci := 4) (q0 := 0) hx hb hml hown htg hN hK (c_X9_where l dC dI cy a0 m0 l4_5 l1_5 v16 e16) (g_V gw1034 gw1036 gw29 gw63 gw1037) hdV_X9_where rfl ⟨⟨Nat.le_of_ble_eq_true rfl, Nat.le_of_ble_eq_true rfl⟩, Nat.le_of_ble_eq_true rfl, Nat.le_of_ble_eq_true rfl⟩ hP hD hS hA ⟨rfl, rfl⟩ rfl [0, 1, 2, 3, 4, 5, 6, 7, 8, 9, 10, 11, 12, 13, 14] [] rfl rfl rfl (by decide) (by decide) hl.1 rfl (Nat.le_of_ble_eq_true rfl) rfl rfl rfl dX9_pointsIn_16 (fun H locs hP hD hS => ?_)
      have hP : va_P (dC, dI) vwCl (wMod a0 cy m0) H := hP
      have hD : va_D A (wMod a0 cy m0) := hD
      refine lv_istore (lv' := [(5, .int v16), (4, .int l4_5), (3, .int l3_5), (0, .ref (a0 0)), (1, .int l1_5), (2, .int l2_5)]) hx hb dX9_pointsIn_19 hl (by decide) rfl (fun ls hl => ?_)
      refine lv_iload_n hx hb dX9_pointsIn_21 rfl (lv_at hl 2 rfl) ?_
      refine lv_iload hx hb dX9_pointsIn_22 (lv_at hl 0 rfl) ?_
      refine lv_iconst (v := 2) hx hb dX9_pointsIn_24 (by decide) ?_
      obtain ⟨b25, e25, h⟩ := bnd h
      have hr43 : ∀ (H : Heap) (locs : List Loc) (ls : Array Slot), va_P (dC, dI) vwCl (wMod a0 cy m0) H → va_D A (wMod a0 cy m0) → va_S A s.heap H locs → lv_has ls 6 [(5, .int v16), (4, .int l4_5), (3, .int l3_5), (0, .ref (a0 0)), (1, .int l1_5), (2, .int l2_5)] → W p l e rm_X9_pointsIn s mm args below meth cd H locs 0 0 Q (F0 mm 43 ls [.int b25, .int l3_5]) := by
        intro H locs ls hP hD hS hl
        refine lv_iadd hx hb dX9_pointsIn_43 ?_
        refine lv_istore_n (lv' := [(3, .int (l3_5 + b25)), (5, .int v16), (4, .int l4_5), (0, .ref (a0 0)), (1, .int l1_5), (2, .int l2_5)]) hx hb dX9_pointsIn_44 rfl hl (by decide) rfl (fun ls hl => ?_)
        refine lv_iinc (v := l4_5 + 1) (lv' := [(4, .int (l4_5 + 1)), (3, .int (l3_5 + b25)), (5, .int v16), (0, .ref (a0 0)), (1, .int l1_5), (2, .int l2_5)]) hx hb dX9_pointsIn_45 hl (k := 2) rfl rfl (by decide) rfl (fun ls hl => ?_)
        refine lv_goto (tgt := 5) hx hb dX9_pointsIn_48 (by decide) ?_
        exact ih5 (l4_5 + 1) (l3_5 + b25) l1_5 l2_5 H locs ls h hP hD hS (lv_sub hl [0, 1, 3, 4, 5] rfl)
      have h := e25
      clear e25
      refine lv_icmp_eq (tgt := 38) hx hb dX9_pointsIn_25 (by decide) (fun c25 => ?_) (fun c25 => ?_)
      · replace h := if_t h c25
        refine lv_iconst (v := 1) hx hb dX9_pointsIn_38 (by decide) ?_
        refine lv_goto (tgt := 43) hx hb dX9_pointsIn_39 (by decide) ?_
        obtain rfl := Option.some.inj h
        exact hr43 H locs ls hP hD hS hl
      replace h := if_f h c25
      refine lv_iload_n hx hb dX9_pointsIn_28 rfl (lv_at hl 5 rfl) ?_
      refine lv_if_eq (tgt := 42) hx hb dX9_pointsIn_29 (by decide) (fun c29 => ?_) (fun c29 => ?_)
      · replace h := if_t h c29
        refine lv_iconst (v := 0) hx hb dX9_pointsIn_42 (by decide) ?_
        obtain rfl := Option.some.inj h
        exact hr43 H locs ls hP hD hS hl
      replace h := if_f h c29
      refine lv_iload hx hb dX9_pointsIn_32 (lv_at hl 0 rfl) ?_
      refine lv_iconst (v := 1) hx hb dX9_pointsIn_34 (by decide) ?_
      refine lv_icmp_ne (tgt := 42) hx hb dX9_pointsIn_35 (by decide) (fun c35 => ?_) (fun c35 => ?_)
      · replace h := if_f h c35
        refine lv_iconst (v := 0) hx hb dX9_pointsIn_42 (by decide) ?_
        obtain rfl := Option.some.inj h
        exact hr43 H locs ls hP hD hS hl
      replace h := if_t h c35
      refine lv_iconst (v := 1) hx hb dX9_pointsIn_38 (by decide) ?_
      refine lv_goto (tgt := 43) hx hb dX9_pointsIn_39 (by decide) ?_
      obtain rfl := Option.some.inj h
      exact hr43 H locs ls hP hD hS hl
  exact hL5 FU 0 0 p1 p2 H locs ls h hP hD hS (lv_sub hl [0, 1, 2, 3, 4] rfl)
def G_X9_inside_L4  (m0 : Mod) : Nat → Int32 → Int32 → Option (Int32)
  | 0, _, _ => none
  | n4 + 1, l2_4, l1_4 =>
    if 15 < l2_4 then
      some l1_4
    else
      (G_X9_pointsIn m0 l2_4 0).bind fun v14 =>
      (G_X9_inside_L4 m0 n4) (l2_4 + 1) (l1_4 + v14)
def G_X9_inside (m0 : Mod) : Option (Int32) :=
  G_X9_inside_L4 m0 FU 0 0
abbrev rm_X9_inside : Room := { frames := 6, cells := 0, slots := 0, locals := 148 }
theorem hdS_X9_inside : yX9_inside.cls ≠ "java/lang/invoke/MethodHandle" ∧ yX9_inside.cls ≠ "java/lang/invoke/VarHandle" ∧ (parseMethodDescriptor yX9_inside.desc).map (fun d => d.parameters.length) = some 0 := by decide +kernel
theorem hdV_X9_inside : yX9_inside.cls = RX9 ∧ yX9_inside.cls ≠ "java/lang/invoke/MethodHandle" ∧ yX9_inside.cls ≠ "java/lang/invoke/VarHandle" ∧ (parseMethodDescriptor yX9_inside.desc).map (fun d => d.parameters.length) = some 0 := ⟨rfl, hdS_X9_inside⟩
set_option maxHeartbeats 4000000 in
set_option maxRecDepth 100000 in
theorem c_X9_inside (l : Launch) (dC : Nat → ClassId) (dI : Nat → Nat → Nat) (cy : Nat → ClassId) (a0 : Nat → Nat) (m0 : Mod) (res : Int32) (h : G_X9_inside m0 = some res) : CT l (dC, dI) (TY cy) yX9_inside cX9_inside 3 (some .int) rm_X9_inside [.ref (a0 0)] (wMod a0 cy m0) (wMod a0 cy m0) (some (.int res)) := by
  refine CT.mk_i (own := RX9) ⟨by decide, rfl⟩ (Nat.le_of_ble_eq_true rfl) ?_
  intro p e s mm args below meth cd A Q hx hb hml hown htg hN hK hA hP hD hS hE ls hl
  have hl : lv_has ls 3 [(0, .ref (a0 0))] := hl
  replace h : _ = some res := h
  unfold G_X9_inside at h
  obtain ⟨H, hH⟩ : ∃ H, H = s.heap := ⟨_, rfl⟩
  obtain ⟨locs, hlocs⟩ : ∃ locs : List Loc, locs = [] := ⟨_, rfl⟩
  rw [← hlocs] at hS ⊢
  have hS : va_S A s.heap H locs := by rw [hH]; exact hS
  rw [← hH] at hP ⊢
  refine lv_iconst (v := 0) hx hb dX9_inside_0 (by decide) ?_
  refine lv_istore_n (lv' := [(1, .int 0), (0, .ref (a0 0))]) hx hb dX9_inside_1 rfl hl (by decide) rfl (fun ls hl => ?_)
  refine lv_iconst (v := 0) hx hb dX9_inside_2 (by decide) ?_
  refine lv_istore_n (lv' := [(2, .int 0), (1, .int 0), (0, .ref (a0 0))]) hx hb dX9_inside_3 rfl hl (by decide) rfl (fun ls hl => ?_)
  have hL4 : ∀ (n4 : Nat) (l2_4 : Int32) (l1_4 : Int32) (H : Heap) (locs : List Loc) (ls : Array Slot), G_X9_inside_L4 m0 n4 l2_4 l1_4 = some res → va_P (dC, dI) vwCl (wMod a0 cy m0) H → va_D A (wMod a0 cy m0) → va_S A s.heap H locs → lv_has ls 3 [(2, .int l2_4), (1, .int l1_4), (0, .ref (a0 0))] → W p l e rm_X9_inside s mm args below meth cd H locs 0 0 Q (F0 mm 4 ls []) := by
    intro n4
    induction n4 with
    | zero => intro l2_4 l1_4 H locs ls h; exact absurd h (by simp [G_X9_inside_L4])
    | succ n4 ih4 =>
      intro l2_4 l1_4 H locs ls h hP hD hS hl
      rw [G_X9_inside_L4] at h
      refine lv_iload_n hx hb dX9_inside_4 rfl (lv_at hl 0 rfl) ?_
      refine lv_bipush (v := 15) hx hb dX9_inside_5 (by decide) ?_
      refine lv_icmp_gt (tgt := 25) hx hb dX9_inside_7 (by decide) (fun c7 => ?_) (fun c7 => ?_)
      · replace h := if_t h c7
        refine lv_iload_n hx hb dX9_inside_25 rfl (lv_at hl 1 rfl) ?_
        obtain rfl := Option.some.inj h
        exact hE H locs 26 ls _ hP hD hS rfl dX9_inside_26
      replace h := if_f h c7
      refine lv_iload_n hx hb dX9_inside_10 rfl (lv_at hl 1 rfl) ?_
      refine lv_aload_n hx hb dX9_inside_11 rfl (lv_at hl 2 rfl) ?_
      refine lv_iload_n hx hb dX9_inside_12 rfl (lv_at hl 0 rfl) ?_
      refine lv_iconst (v := 0) hx hb dX9_inside_13 (by decide) ?_
      obtain ⟨v14, e14, h⟩ := bnd h
      refine cV (av := [.int l2_4, .int 0]) (rest := [.int l1_4]) (st1 := [.int v14, .int l1_4]) (k1 := 0) (k2 := 0) (ci := 4) (q0 := 0) hx hb hml hown htg hN hK (c_X9_pointsIn l dC dI cy a0 m0 l2_4 0 v14 e14) (g_V gw1030 gw1032 gw28 gw63 gw1033) hdV_X9_pointsIn rfl ⟨⟨Nat.le_of_ble_eq_true rfl, Nat.le_of_ble_eq_true rfl⟩, Nat.le_of_ble_eq_true rfl, Nat.le_of_ble_eq_true rfl⟩ hP hD hS hA ⟨rfl, rfl⟩ rfl [0, 1, 2, 3, 4, 5, 6, 7, 8, 9, 10, 11, 12, 13, 14] [] rfl rfl rfl (by decide) (by decide) hl.1 rfl (Nat.le_of_ble_eq_true rfl) rfl rfl rfl dX9_inside_14 (fun H locs hP hD hS => ?_)
      have hP : va_P (dC, dI) vwCl (wMod a0 cy m0) H := hP
      have hD : va_D A (wMod a0 cy m0) := hD
      refine lv_iadd hx hb dX9_inside_17 ?_
      refine lv_istore_n (lv' := [(1, .int (l1_4 + v14)), (2, .int l2_4), (0, .ref (a0 0))]) hx hb dX9_inside_18 rfl hl (by decide) rfl (fun ls hl => ?_)
      refine lv_iinc (v := l2_4 + 1) (lv' := [(2, .int (l2_4 + 1)), (1, .int (l1_4 + v14)), (0, .ref (a0 0))]) hx hb dX9_inside_19 hl (k := 1) rfl rfl (by decide) rfl (fun ls hl => ?_)
      refine lv_goto (tgt := 4) hx hb dX9_inside_22 (by decide) ?_
      exact ih4 (l2_4 + 1) (l1_4 + v14) H locs ls h hP hD hS (lv_sub hl [0, 1, 2] rfl)
  exact hL4 FU 0 0 H locs ls h hP hD hS (lv_sub hl [0, 1, 2] rfl)
def G_X9_before (m0 : Mod) (p1 : Int32) (p2 : Int32) : Option (Int32) :=
  if p2 = 0 then
    (G_X9_many m0 p1).bind fun v6 =>
    some (v6 - 1)
  else
    some (p2 - 1)
abbrev rm_X9_before : Room := { frames := 1, cells := 0, slots := 0, locals := 21 }
theorem hdS_X9_before : yX9_before.cls ≠ "java/lang/invoke/MethodHandle" ∧ yX9_before.cls ≠ "java/lang/invoke/VarHandle" ∧ (parseMethodDescriptor yX9_before.desc).map (fun d => d.parameters.length) = some 2 := by decide +kernel
theorem hdV_X9_before : yX9_before.cls = RX9 ∧ yX9_before.cls ≠ "java/lang/invoke/MethodHandle" ∧ yX9_before.cls ≠ "java/lang/invoke/VarHandle" ∧ (parseMethodDescriptor yX9_before.desc).map (fun d => d.parameters.length) = some 2 := ⟨rfl, hdS_X9_before⟩
set_option maxHeartbeats 4000000 in
set_option maxRecDepth 100000 in
theorem c_X9_before (l : Launch) (dC : Nat → ClassId) (dI : Nat → Nat → Nat) (cy : Nat → ClassId) (a0 : Nat → Nat) (m0 : Mod) (p1 : Int32) (p2 : Int32) (res : Int32) (h : G_X9_before m0 p1 p2 = some res) : CT l (dC, dI) (TY cy) yX9_before cX9_before 3 (some .int) rm_X9_before [.ref (a0 0), .int p1, .int p2] (wMod a0 cy m0) (wMod a0 cy m0) (some (.int res)) := by
  refine CT.mk_i (own := RX9) ⟨by decide, rfl⟩ (Nat.le_of_ble_eq_true rfl) ?_
  intro p e s mm args below meth cd A Q hx hb hml hown htg hN hK hA hP hD hS hE ls hl
  have hl : lv_has ls 3 [(0, .ref (a0 0)), (1, .int p1), (2, .int p2)] := hl
  replace h : _ = some res := h
  unfold G_X9_before at h
  obtain ⟨H, hH⟩ : ∃ H, H = s.heap := ⟨_, rfl⟩
  obtain ⟨locs, hlocs⟩ : ∃ locs : List Loc, locs = [] := ⟨_, rfl⟩
  rw [← hlocs] at hS ⊢
  have hS : va_S A s.heap H locs := by rw [hH]; exact hS
  rw [← hH] at hP ⊢
  refine lv_iload_n hx hb dX9_before_0 rfl (lv_at hl 2 rfl) ?_
  refine lv_if_ne (tgt := 14) hx hb dX9_before_1 (by decide) (fun c1 => ?_) (fun c1 => ?_)
  · replace h := if_f h c1
    refine lv_iload_n hx hb dX9_before_14 rfl (lv_at hl 2 rfl) ?_
    refine lv_iconst (v := 1) hx hb dX9_before_15 (by decide) ?_
    refine lv_isub hx hb dX9_before_16 ?_
    obtain rfl := Option.some.inj h
    exact hE H locs 17 ls _ hP hD hS rfl dX9_before_17
  replace h := if_t h c1
  refine lv_aload_n hx hb dX9_before_4 rfl (lv_at hl 0 rfl) ?_
  refine lv_iload_n hx hb dX9_before_5 rfl (lv_at hl 1 rfl) ?_
  obtain ⟨v6, e6, h⟩ := bnd h
  refine cV (av := [.int p1]) (rest := []) (st1 := [.int v6]) (k1 := 0) (k2 := 0) (ci := 4) (q0 := 0) hx hb hml hown htg hN hK (c_X9_many l dC dI cy a0 m0 p1 v6 e6) (g_V gw935 gw937 gw10 gw63 gw938) hdV_X9_many rfl ⟨⟨Nat.le_of_ble_eq_true rfl, Nat.le_of_ble_eq_true rfl⟩, Nat.le_of_ble_eq_true rfl, Nat.le_of_ble_eq_true rfl⟩ hP hD hS hA ⟨rfl, rfl⟩ rfl [0, 1, 2, 3, 4, 5, 6, 7, 8, 9, 10, 11, 12, 13, 14] [] rfl rfl rfl (by decide) (by decide) hl.1 rfl (Nat.le_of_ble_eq_true rfl) rfl rfl rfl dX9_before_6 (fun H locs hP hD hS => ?_)
  have hP : va_P (dC, dI) vwCl (wMod a0 cy m0) H := hP
  have hD : va_D A (wMod a0 cy m0) := hD
  refine lv_iconst (v := 1) hx hb dX9_before_9 (by decide) ?_
  refine lv_isub hx hb dX9_before_10 ?_
  refine lv_goto (tgt := 17) hx hb dX9_before_11 (by decide) ?_
  obtain rfl := Option.some.inj h
  exact hE H locs 17 ls _ hP hD hS rfl dX9_before_17
def G_X9_bend (m0 : Mod) (p1 : Int32) (p2 : Int32) : Option (Int32) :=
  (G_X9_before m0 p1 p2).bind fun v3 =>
  (G_X9_next m0 p1 p2).bind fun v10 =>
  (G_X9_x m0 p1 p2).bind fun v18 =>
  (G_X9_x m0 p1 v3).bind fun v24 =>
  (G_X9_y m0 p1 v10).bind fun v32 =>
  (G_X9_y m0 p1 p2).bind fun v38 =>
  (G_X9_y m0 p1 p2).bind fun v46 =>
  (G_X9_y m0 p1 v3).bind fun v52 =>
  (G_X9_x m0 p1 v10).bind fun v60 =>
  (G_X9_x m0 p1 p2).bind fun v66 =>
  some (((v18 - v24) * (v32 - v38)) - ((v46 - v52) * (v60 - v66)))
abbrev rm_X9_bend : Room := { frames := 2, cells := 0, slots := 0, locals := 43 }
theorem hdS_X9_bend : yX9_bend.cls ≠ "java/lang/invoke/MethodHandle" ∧ yX9_bend.cls ≠ "java/lang/invoke/VarHandle" ∧ (parseMethodDescriptor yX9_bend.desc).map (fun d => d.parameters.length) = some 2 := by decide +kernel
theorem hdV_X9_bend : yX9_bend.cls = RX9 ∧ yX9_bend.cls ≠ "java/lang/invoke/MethodHandle" ∧ yX9_bend.cls ≠ "java/lang/invoke/VarHandle" ∧ (parseMethodDescriptor yX9_bend.desc).map (fun d => d.parameters.length) = some 2 := ⟨rfl, hdS_X9_bend⟩
set_option maxHeartbeats 4000000 in
set_option maxRecDepth 100000 in
theorem c_X9_bend (l : Launch) (dC : Nat → ClassId) (dI : Nat → Nat → Nat) (cy : Nat → ClassId) (a0 : Nat → Nat) (m0 : Mod) (p1 : Int32) (p2 : Int32) (res : Int32) (h : G_X9_bend m0 p1 p2 = some res) : CT l (dC, dI) (TY cy) yX9_bend cX9_bend 5 (some .int) rm_X9_bend [.ref (a0 0), .int p1, .int p2] (wMod a0 cy m0) (wMod a0 cy m0) (some (.int res)) := by
  refine CT.mk_i (own := RX9) ⟨by decide, rfl⟩ (Nat.le_of_ble_eq_true rfl) ?_
  intro p e s mm args below meth cd A Q hx hb hml hown htg hN hK hA hP hD hS hE ls hl
  have hl : lv_has ls 5 [(0, .ref (a0 0)), (1, .int p1), (2, .int p2)] := hl
  replace h : _ = some res := h
  unfold G_X9_bend at h
  obtain ⟨H, hH⟩ : ∃ H, H = s.heap := ⟨_, rfl⟩
  obtain ⟨locs, hlocs⟩ : ∃ locs : List Loc, locs = [] := ⟨_, rfl⟩
  rw [← hlocs] at hS ⊢
  have hS : va_S A s.heap H locs := by rw [hH]; exact hS
  rw [← hH] at hP ⊢
  refine lv_aload_n hx hb dX9_bend_0 rfl (lv_at hl 0 rfl) ?_
  refine lv_iload_n hx hb dX9_bend_1 rfl (lv_at hl 1 rfl) ?_
  refine lv_iload_n hx hb dX9_bend_2 rfl (lv_at hl 2 rfl) ?_
  obtain ⟨v3, e3, h⟩ := bnd h
  refine cV (av := [.int p1, .int p2]) (rest := []) (st1 := [.int v3]) (k1 := 0) (k2 := 0) (ci := 4) (q0 := 0) hx hb hml hown htg hN hK (c_X9_before l dC dI cy a0 m0 p1 p2 v3 e3) (g_V gw1054 gw1056 gw34 gw63 gw1057) hdV_X9_before rfl ⟨⟨Nat.le_of_ble_eq_true rfl, Nat.le_of_ble_eq_true rfl⟩, Nat.le_of_ble_eq_true rfl, Nat.le_of_ble_eq_true rfl⟩ hP hD hS hA ⟨rfl, rfl⟩ rfl [0, 1, 2, 3, 4, 5, 6, 7, 8, 9, 10, 11, 12, 13, 14] [] rfl rfl rfl (by decide) (by decide) hl.1 rfl (Nat.le_of_ble_eq_true rfl) rfl rfl rfl dX9_bend_3 (fun H locs hP hD hS => ?_)
  have hP : va_P (dC, dI) vwCl (wMod a0 cy m0) H := hP
  have hD : va_D A (wMod a0 cy m0) := hD
  refine lv_istore_n (lv' := [(3, .int v3), (0, .ref (a0 0)), (1, .int p1), (2, .int p2)]) hx hb dX9_bend_6 rfl hl (by decide) rfl (fun ls hl => ?_)
  refine lv_aload_n hx hb dX9_bend_7 rfl (lv_at hl 1 rfl) ?_
  refine lv_iload_n hx hb dX9_bend_8 rfl (lv_at hl 2 rfl) ?_
  refine lv_iload_n hx hb dX9_bend_9 rfl (lv_at hl 3 rfl) ?_
  obtain ⟨v10, e10, h⟩ := bnd h
  refine cV (av := [.int p1, .int p2]) (rest := []) (st1 := [.int v10]) (k1 := 0) (k2 := 0) (ci := 4) (q0 := 0) hx hb hml hown htg hN hK (c_X9_next l dC dI cy a0 m0 p1 p2 v10 e10) (g_V gw955 gw957 gw15 gw63 gw958) hdV_X9_next rfl ⟨⟨Nat.le_of_ble_eq_true rfl, Nat.le_of_ble_eq_true rfl⟩, Nat.le_of_ble_eq_true rfl, Nat.le_of_ble_eq_true rfl⟩ hP hD hS hA ⟨rfl, rfl⟩ rfl [0, 1, 2, 3, 4, 5, 6, 7, 8, 9, 10, 11, 12, 13, 14] [] rfl rfl rfl (by decide) (by decide) hl.1 rfl (Nat.le_of_ble_eq_true rfl) rfl rfl rfl dX9_bend_10 (fun H locs hP hD hS => ?_)
  have hP : va_P (dC, dI) vwCl (wMod a0 cy m0) H := hP
  have hD : va_D A (wMod a0 cy m0) := hD
  refine lv_istore (lv' := [(4, .int v10), (3, .int v3), (0, .ref (a0 0)), (1, .int p1), (2, .int p2)]) hx hb dX9_bend_13 hl (by decide) rfl (fun ls hl => ?_)
  refine lv_aload_n hx hb dX9_bend_15 rfl (lv_at hl 2 rfl) ?_
  refine lv_iload_n hx hb dX9_bend_16 rfl (lv_at hl 3 rfl) ?_
  refine lv_iload_n hx hb dX9_bend_17 rfl (lv_at hl 4 rfl) ?_
  obtain ⟨v18, e18, h⟩ := bnd h
  refine cV (av := [.int p1, .int p2]) (rest := []) (st1 := [.int v18]) (k1 := 0) (k2 := 0) (ci := 4) (q0 := 0) hx hb hml hown htg hN hK (c_X9_x l dC dI cy a0 m0 p1 p2 v18 e18) (g_V gw947 gw949 gw13 gw63 gw950) hdV_X9_x rfl ⟨⟨Nat.le_of_ble_eq_true rfl, Nat.le_of_ble_eq_true rfl⟩, Nat.le_of_ble_eq_true rfl, Nat.le_of_ble_eq_true rfl⟩ hP hD hS hA ⟨rfl, rfl⟩ rfl [0, 1, 2, 3, 4, 5, 6, 7, 8, 9, 10, 11, 12, 13, 14] [] rfl rfl rfl (by decide) (by decide) hl.1 rfl (Nat.le_of_ble_eq_true rfl) rfl rfl rfl dX9_bend_18 (fun H locs hP hD hS => ?_)
  have hP : va_P (dC, dI) vwCl (wMod a0 cy m0) H := hP
  have hD : va_D A (wMod a0 cy m0) := hD
  refine lv_aload_n hx hb dX9_bend_21 rfl (lv_at hl 2 rfl) ?_
  refine lv_iload_n hx hb dX9_bend_22 rfl (lv_at hl 3 rfl) ?_
  refine lv_iload_n hx hb dX9_bend_23 rfl (lv_at hl 1 rfl) ?_
  obtain ⟨v24, e24, h⟩ := bnd h
  refine cV (av := [.int p1, .int v3]) (rest := [.int v18]) (st1 := [.int v24, .int v18]) (k1 := 0) (k2 := 0) (ci := 4) (q0 := 0) hx hb hml hown htg hN hK (c_X9_x l dC dI cy a0 m0 p1 v3 v24 e24) (g_V gw947 gw949 gw13 gw63 gw950) hdV_X9_x rfl ⟨⟨Nat.le_of_ble_eq_true rfl, Nat.le_of_ble_eq_true rfl⟩, Nat.le_of_ble_eq_true rfl, Nat.le_of_ble_eq_true rfl⟩ hP hD hS hA ⟨rfl, rfl⟩ rfl [0, 1, 2, 3, 4, 5, 6, 7, 8, 9, 10, 11, 12, 13, 14] [] rfl rfl rfl (by decide) (by decide) hl.1 rfl (Nat.le_of_ble_eq_true rfl) rfl rfl rfl dX9_bend_24 (fun H locs hP hD hS => ?_)
  have hP : va_P (dC, dI) vwCl (wMod a0 cy m0) H := hP
  have hD : va_D A (wMod a0 cy m0) := hD
  refine lv_isub hx hb dX9_bend_27 ?_
  refine lv_aload_n hx hb dX9_bend_28 rfl (lv_at hl 2 rfl) ?_
  refine lv_iload_n hx hb dX9_bend_29 rfl (lv_at hl 3 rfl) ?_
  refine lv_iload hx hb dX9_bend_30 (lv_at hl 0 rfl) ?_
  obtain ⟨v32, e32, h⟩ := bnd h
  refine cV (av := [.int p1, .int v10]) (rest := [.int (v18 - v24)]) (st1 := [.int v32, .int (v18 - v24)]) (k1 := 0) (k2 := 0) (ci := 4) (q0 := 0) hx hb hml hown htg hN hK (c_X9_y l dC dI cy a0 m0 p1 v10 v32 e32) (g_V gw951 gw953 gw14 gw63 gw954) hdV_X9_y rfl ⟨⟨Nat.le_of_ble_eq_true rfl, Nat.le_of_ble_eq_true rfl⟩, Nat.le_of_ble_eq_true rfl, Nat.le_of_ble_eq_true rfl⟩ hP hD hS hA ⟨rfl, rfl⟩ rfl [0, 1, 2, 3, 4, 5, 6, 7, 8, 9, 10, 11, 12, 13, 14] [] rfl rfl rfl (by decide) (by decide) hl.1 rfl (Nat.le_of_ble_eq_true rfl) rfl rfl rfl dX9_bend_32 (fun H locs hP hD hS => ?_)
  have hP : va_P (dC, dI) vwCl (wMod a0 cy m0) H := hP
  have hD : va_D A (wMod a0 cy m0) := hD
  refine lv_aload_n hx hb dX9_bend_35 rfl (lv_at hl 2 rfl) ?_
  refine lv_iload_n hx hb dX9_bend_36 rfl (lv_at hl 3 rfl) ?_
  refine lv_iload_n hx hb dX9_bend_37 rfl (lv_at hl 4 rfl) ?_
  obtain ⟨v38, e38, h⟩ := bnd h
  refine cV (av := [.int p1, .int p2]) (rest := [.int v32, .int (v18 - v24)]) (st1 := [.int v38, .int v32, .int (v18 - v24)]) (k1 := 0) (k2 := 0) (ci := 4) (q0 := 0) hx hb hml hown htg hN hK (c_X9_y l dC dI cy a0 m0 p1 p2 v38 e38) (g_V gw951 gw953 gw14 gw63 gw954) hdV_X9_y rfl ⟨⟨Nat.le_of_ble_eq_true rfl, Nat.le_of_ble_eq_true rfl⟩, Nat.le_of_ble_eq_true rfl, Nat.le_of_ble_eq_true rfl⟩ hP hD hS hA ⟨rfl, rfl⟩ rfl [0, 1, 2, 3, 4, 5, 6, 7, 8, 9, 10, 11, 12, 13, 14] [] rfl rfl rfl (by decide) (by decide) hl.1 rfl (Nat.le_of_ble_eq_true rfl) rfl rfl rfl dX9_bend_38 (fun H locs hP hD hS => ?_)
  have hP : va_P (dC, dI) vwCl (wMod a0 cy m0) H := hP
  have hD : va_D A (wMod a0 cy m0) := hD
  refine lv_isub hx hb dX9_bend_41 ?_
  refine lv_imul hx hb dX9_bend_42 ?_
  refine lv_aload_n hx hb dX9_bend_43 rfl (lv_at hl 2 rfl) ?_
  refine lv_iload_n hx hb dX9_bend_44 rfl (lv_at hl 3 rfl) ?_
  refine lv_iload_n hx hb dX9_bend_45 rfl (lv_at hl 4 rfl) ?_
  obtain ⟨v46, e46, h⟩ := bnd h
  refine cV (av := [.int p1, .int p2]) (rest := [.int ((v18 - v24) * (v32 - v38))]) (st1 := [.int v46, .int ((v18 - v24) * (v32 - v38))]) (k1 := 0) (k2 := 0) (ci := 4) (q0 := 0) hx hb hml hown htg hN hK (c_X9_y l dC dI cy a0 m0 p1 p2 v46 e46) (g_V gw951 gw953 gw14 gw63 gw954) hdV_X9_y rfl ⟨⟨Nat.le_of_ble_eq_true rfl, Nat.le_of_ble_eq_true rfl⟩, Nat.le_of_ble_eq_true rfl, Nat.le_of_ble_eq_true rfl⟩ hP hD hS hA ⟨rfl, rfl⟩ rfl [0, 1, 2, 3, 4, 5, 6, 7, 8, 9, 10, 11, 12, 13, 14] [] rfl rfl rfl (by decide) (by decide) hl.1 rfl (Nat.le_of_ble_eq_true rfl) rfl rfl rfl dX9_bend_46 (fun H locs hP hD hS => ?_)
  have hP : va_P (dC, dI) vwCl (wMod a0 cy m0) H := hP
  have hD : va_D A (wMod a0 cy m0) := hD
  refine lv_aload_n hx hb dX9_bend_49 rfl (lv_at hl 2 rfl) ?_
  refine lv_iload_n hx hb dX9_bend_50 rfl (lv_at hl 3 rfl) ?_
  refine lv_iload_n hx hb dX9_bend_51 rfl (lv_at hl 1 rfl) ?_
  obtain ⟨v52, e52, h⟩ := bnd h
  refine cV (av := [.int p1, .int v3]) (rest := [.int v46, .int ((v18 - v24) * (v32 - v38))]) (st1 := [.int v52, .int v46, .int ((v18 - v24) * (v32 - v38))]) (k1 := 0) (k2 := 0) (ci := 4) (q0 := 0) hx hb hml hown htg hN hK (c_X9_y l dC dI cy a0 m0 p1 v3 v52 e52) (g_V gw951 gw953 gw14 gw63 gw954) hdV_X9_y rfl ⟨⟨Nat.le_of_ble_eq_true rfl, Nat.le_of_ble_eq_true rfl⟩, Nat.le_of_ble_eq_true rfl, Nat.le_of_ble_eq_true rfl⟩ hP hD hS hA ⟨rfl, rfl⟩ rfl [0, 1, 2, 3, 4, 5, 6, 7, 8, 9, 10, 11, 12, 13, 14] [] rfl rfl rfl (by decide) (by decide) hl.1 rfl (Nat.le_of_ble_eq_true rfl) rfl rfl rfl dX9_bend_52 (fun H locs hP hD hS => ?_)
  have hP : va_P (dC, dI) vwCl (wMod a0 cy m0) H := hP
  have hD : va_D A (wMod a0 cy m0) := hD
  refine lv_isub hx hb dX9_bend_55 ?_
  refine lv_aload_n hx hb dX9_bend_56 rfl (lv_at hl 2 rfl) ?_
  refine lv_iload_n hx hb dX9_bend_57 rfl (lv_at hl 3 rfl) ?_
  refine lv_iload hx hb dX9_bend_58 (lv_at hl 0 rfl) ?_
  obtain ⟨v60, e60, h⟩ := bnd h
  refine cV (av := [.int p1, .int v10]) (rest := [.int (v46 - v52), .int ((v18 - v24) * (v32 - v38))]) (st1 := [.int v60, .int (v46 - v52), .int ((v18 - v24) * (v32 - v38))]) (k1 := 0) (k2 := 0) (ci := 4) (q0 := 0) hx hb hml hown htg hN hK (c_X9_x l dC dI cy a0 m0 p1 v10 v60 e60) (g_V gw947 gw949 gw13 gw63 gw950) hdV_X9_x rfl ⟨⟨Nat.le_of_ble_eq_true rfl, Nat.le_of_ble_eq_true rfl⟩, Nat.le_of_ble_eq_true rfl, Nat.le_of_ble_eq_true rfl⟩ hP hD hS hA ⟨rfl, rfl⟩ rfl [0, 1, 2, 3, 4, 5, 6, 7, 8, 9, 10, 11, 12, 13, 14] [] rfl rfl rfl (by decide) (by decide) hl.1 rfl (Nat.le_of_ble_eq_true rfl) rfl rfl rfl dX9_bend_60 (fun H locs hP hD hS => ?_)
  have hP : va_P (dC, dI) vwCl (wMod a0 cy m0) H := hP
  have hD : va_D A (wMod a0 cy m0) := hD
  refine lv_aload_n hx hb dX9_bend_63 rfl (lv_at hl 2 rfl) ?_
  refine lv_iload_n hx hb dX9_bend_64 rfl (lv_at hl 3 rfl) ?_
  refine lv_iload_n hx hb dX9_bend_65 rfl (lv_at hl 4 rfl) ?_
  obtain ⟨v66, e66, h⟩ := bnd h
  refine cV (av := [.int p1, .int p2]) (rest := [.int v60, .int (v46 - v52), .int ((v18 - v24) * (v32 - v38))]) (st1 := [.int v66, .int v60, .int (v46 - v52), .int ((v18 - v24) * (v32 - v38))]) (k1 := 0) (k2 := 0) (ci := 4) (q0 := 0) hx hb hml hown htg hN hK (c_X9_x l dC dI cy a0 m0 p1 p2 v66 e66) (g_V gw947 gw949 gw13 gw63 gw950) hdV_X9_x rfl ⟨⟨Nat.le_of_ble_eq_true rfl, Nat.le_of_ble_eq_true rfl⟩, Nat.le_of_ble_eq_true rfl, Nat.le_of_ble_eq_true rfl⟩ hP hD hS hA ⟨rfl, rfl⟩ rfl [0, 1, 2, 3, 4, 5, 6, 7, 8, 9, 10, 11, 12, 13, 14] [] rfl rfl rfl (by decide) (by decide) hl.1 rfl (Nat.le_of_ble_eq_true rfl) rfl rfl rfl dX9_bend_66 (fun H locs hP hD hS => ?_)
  have hP : va_P (dC, dI) vwCl (wMod a0 cy m0) H := hP
  have hD : va_D A (wMod a0 cy m0) := hD
  refine lv_isub hx hb dX9_bend_69 ?_
  refine lv_imul hx hb dX9_bend_70 ?_
  refine lv_isub hx hb dX9_bend_71 ?_
  obtain rfl := Option.some.inj h
  exact hE H locs 72 ls _ hP hD hS rfl dX9_bend_72
def G_X9_kind (m0 : Mod) (p1 : Int32) (p2 : Int32) : Option (Int32) :=
  (G_X9_bend m0 p1 p2).bind fun v3 =>
  if v3 = 0 then
    some 0
  else
    ((if v3 ≤ 0 then
        some 0
      else
        some 1) : Option (Int32)).bind fun b16 =>
    (G_X9_sumOf m0 p1).bind fun v26 =>
    ((if v26 ≤ 0 then
        some 0
      else
        some 1) : Option (Int32)).bind fun b29 =>
    if b16 = b29 then
      some 1
    else
      some (-1)
abbrev rm_X9_kind : Room := { frames := 3, cells := 0, slots := 0, locals := 67 }
theorem hdS_X9_kind : yX9_kind.cls ≠ "java/lang/invoke/MethodHandle" ∧ yX9_kind.cls ≠ "java/lang/invoke/VarHandle" ∧ (parseMethodDescriptor yX9_kind.desc).map (fun d => d.parameters.length) = some 2 := by decide +kernel
theorem hdV_X9_kind : yX9_kind.cls = RX9 ∧ yX9_kind.cls ≠ "java/lang/invoke/MethodHandle" ∧ yX9_kind.cls ≠ "java/lang/invoke/VarHandle" ∧ (parseMethodDescriptor yX9_kind.desc).map (fun d => d.parameters.length) = some 2 := ⟨rfl, hdS_X9_kind⟩
set_option maxHeartbeats 4000000 in
set_option maxRecDepth 100000 in
theorem c_X9_kind (l : Launch) (dC : Nat → ClassId) (dI : Nat → Nat → Nat) (cy : Nat → ClassId) (a0 : Nat → Nat) (m0 : Mod) (p1 : Int32) (p2 : Int32) (res : Int32) (h : G_X9_kind m0 p1 p2 = some res) : CT l (dC, dI) (TY cy) yX9_kind cX9_kind 4 (some .int) rm_X9_kind [.ref (a0 0), .int p1, .int p2] (wMod a0 cy m0) (wMod a0 cy m0) (some (.int res)) := by
  refine CT.mk_i (own := RX9) ⟨by decide, rfl⟩ (Nat.le_of_ble_eq_true rfl) ?_
  intro p e s mm args below meth cd A Q hx hb hml hown htg hN hK hA hP hD hS hE ls hl
  have hl : lv_has ls 4 [(0, .ref (a0 0)), (1, .int p1), (2, .int p2)] := hl
  replace h : _ = some res := h
  unfold G_X9_kind at h
  obtain ⟨H, hH⟩ : ∃ H, H = s.heap := ⟨_, rfl⟩
  obtain ⟨locs, hlocs⟩ : ∃ locs : List Loc, locs = [] := ⟨_, rfl⟩
  rw [← hlocs] at hS ⊢
  have hS : va_S A s.heap H locs := by rw [hH]; exact hS
  rw [← hH] at hP ⊢
  refine lv_aload_n hx hb dX9_kind_0 rfl (lv_at hl 0 rfl) ?_
  refine lv_iload_n hx hb dX9_kind_1 rfl (lv_at hl 1 rfl) ?_
  refine lv_iload_n hx hb dX9_kind_2 rfl (lv_at hl 2 rfl) ?_
  obtain ⟨v3, e3, h⟩ := bnd h
  refine cV (av := [.int p1, .int p2]) (rest := []) (st1 := [.int v3]) (k1 := 0) (k2 := 0) (ci := 4) (q0 := 0) hx hb hml hown htg hN hK (c_X9_bend l dC dI cy a0 m0 p1 p2 v3 e3) (g_V gw1050 gw1052 gw33 gw63 gw1053) hdV_X9_bend rfl ⟨⟨Nat.le_of_ble_eq_true rfl, Nat.le_of_ble_eq_true rfl⟩, Nat.le_of_ble_eq_true rfl, Nat.le_of_ble_eq_true rfl⟩ hP hD hS hA ⟨rfl, rfl⟩ rfl [0, 1, 2, 3, 4, 5, 6, 7, 8, 9, 10, 11, 12, 13, 14] [] rfl rfl rfl (by decide) (by decide) hl.1 rfl (Nat.le_of_ble_eq_true rfl) rfl rfl rfl dX9_kind_3 (fun H locs hP hD hS => ?_)
  have hP : va_P (dC, dI) vwCl (wMod a0 cy m0) H := hP
  have hD : va_D A (wMod a0 cy m0) := hD
  refine lv_istore_n (lv' := [(3, .int v3), (0, .ref (a0 0)), (1, .int p1), (2, .int p2)]) hx hb dX9_kind_6 rfl hl (by decide) rfl (fun ls hl => ?_)
  refine lv_iload_n hx hb dX9_kind_7 rfl (lv_at hl 0 rfl) ?_
  refine lv_if_ne (tgt := 15) hx hb dX9_kind_8 (by decide) (fun c8 => ?_) (fun c8 => ?_)
  · replace h := if_f h c8
    refine lv_iload_n hx hb dX9_kind_15 rfl (lv_at hl 0 rfl) ?_
    obtain ⟨b16, e16, h⟩ := bnd h
    have hr24 : ∀ (H : Heap) (locs : List Loc) (ls : Array Slot), va_P (dC, dI) vwCl (wMod a0 cy m0) H → va_D A (wMod a0 cy m0) → va_S A s.heap H locs → lv_has ls 4 [(3, .int v3), (0, .ref (a0 0)), (1, .int p1), (2, .int p2)] → W p l e rm_X9_kind s mm args below meth cd H locs 0 0 Q (F0 mm 24 ls [.int b16]) := by
      intro H locs ls hP hD hS hl
      refine lv_aload_n hx hb dX9_kind_24 rfl (lv_at hl 1 rfl) ?_
      refine lv_iload_n hx hb dX9_kind_25 rfl (lv_at hl 2 rfl) ?_
      obtain ⟨v26, e26, h⟩ := bnd h
      refine cV (av := [.int p1]) (rest := [.int b16]) (st1 := [.int v26, .int b16]) (k1 := 0) (k2 := 0) (ci := 4) (q0 := 0) hx hb hml hown htg hN hK (c_X9_sumOf l dC dI cy a0 m0 p1 v26 e26) (g_V gw1008 gw1010 gw24 gw63 gw1011) hdV_X9_sumOf rfl ⟨⟨Nat.le_of_ble_eq_true rfl, Nat.le_of_ble_eq_true rfl⟩, Nat.le_of_ble_eq_true rfl, Nat.le_of_ble_eq_true rfl⟩ hP hD hS hA ⟨rfl, rfl⟩ rfl [0, 1, 2, 3, 4, 5, 6, 7, 8, 9, 10, 11, 12, 13, 14] [] rfl rfl rfl (by decide) (by decide) hl.1 rfl (Nat.le_of_ble_eq_true rfl) rfl rfl rfl dX9_kind_26 (fun H locs hP hD hS => ?_)
      have hP : va_P (dC, dI) vwCl (wMod a0 cy m0) H := hP
      have hD : va_D A (wMod a0 cy m0) := hD
      obtain ⟨b29, e29, h⟩ := bnd h
      have hr37 : ∀ (H : Heap) (locs : List Loc) (ls : Array Slot), va_P (dC, dI) vwCl (wMod a0 cy m0) H → va_D A (wMod a0 cy m0) → va_S A s.heap H locs → lv_has ls 4 [(3, .int v3), (0, .ref (a0 0)), (1, .int p1), (2, .int p2)] → W p l e rm_X9_kind s mm args below meth cd H locs 0 0 Q (F0 mm 37 ls [.int b29, .int b16]) := by
        intro H locs ls hP hD hS hl
        refine lv_icmp_ne (tgt := 44) hx hb dX9_kind_37 (by decide) (fun c37 => ?_) (fun c37 => ?_)
        · replace h := if_f h c37
          refine lv_iconst (v := (-1)) hx hb dX9_kind_44 (by decide) ?_
          obtain rfl := Option.some.inj h
          exact hE H locs 45 ls _ hP hD hS rfl dX9_kind_45
        replace h := if_t h c37
        refine lv_iconst (v := 1) hx hb dX9_kind_40 (by decide) ?_
        refine lv_goto (tgt := 45) hx hb dX9_kind_41 (by decide) ?_
        obtain rfl := Option.some.inj h
        exact hE H locs 45 ls _ hP hD hS rfl dX9_kind_45
      have h := e29
      clear e29
      refine lv_if_le (tgt := 36) hx hb dX9_kind_29 (by decide) (fun c29 => ?_) (fun c29 => ?_)
      · replace h := if_t h c29
        refine lv_iconst (v := 0) hx hb dX9_kind_36 (by decide) ?_
        obtain rfl := Option.some.inj h
        exact hr37 H locs ls hP hD hS hl
      replace h := if_f h c29
      refine lv_iconst (v := 1) hx hb dX9_kind_32 (by decide) ?_
      refine lv_goto (tgt := 37) hx hb dX9_kind_33 (by decide) ?_
      obtain rfl := Option.some.inj h
      exact hr37 H locs ls hP hD hS hl
    have h := e16
    clear e16
    refine lv_if_le (tgt := 23) hx hb dX9_kind_16 (by decide) (fun c16 => ?_) (fun c16 => ?_)
    · replace h := if_t h c16
      refine lv_iconst (v := 0) hx hb dX9_kind_23 (by decide) ?_
      obtain rfl := Option.some.inj h
      exact hr24 H locs ls hP hD hS hl
    replace h := if_f h c16
    refine lv_iconst (v := 1) hx hb dX9_kind_19 (by decide) ?_
    refine lv_goto (tgt := 24) hx hb dX9_kind_20 (by decide) ?_
    obtain rfl := Option.some.inj h
    exact hr24 H locs ls hP hD hS hl
  replace h := if_t h c8
  refine lv_iconst (v := 0) hx hb dX9_kind_11 (by decide) ?_
  refine lv_goto (tgt := 45) hx hb dX9_kind_12 (by decide) ?_
  obtain rfl := Option.some.inj h
  exact hE H locs 45 ls _ hP hD hS rfl dX9_kind_45
def G_X9_kindsOf_L4  (m0 : Mod) : Nat → Int32 → Int32 → Int32 → Option (Int32)
  | 0, _, _, _ => none
  | n4 + 1, l3_4, l2_4, l1_4 =>
    (G_X9_many m0 0).bind fun v7 =>
    if v7 ≤ l3_4 then
      some l2_4
    else
      (G_X9_kind m0 0 l3_4).bind fun v17 =>
      ((if v17 = l1_4 then
          some 1
        else
          some 0) : Option (Int32)).bind fun b21 =>
      (G_X9_kindsOf_L4 m0 n4) (l3_4 + 1) (l2_4 + b21) l1_4
def G_X9_kindsOf (m0 : Mod) (p1 : Int32) : Option (Int32) :=
  G_X9_kindsOf_L4 m0 FU 0 0 p1
abbrev rm_X9_kindsOf : Room := { frames := 4, cells := 0, slots := 0, locals := 90 }
theorem hdS_X9_kindsOf : yX9_kindsOf.cls ≠ "java/lang/invoke/MethodHandle" ∧ yX9_kindsOf.cls ≠ "java/lang/invoke/VarHandle" ∧ (parseMethodDescriptor yX9_kindsOf.desc).map (fun d => d.parameters.length) = some 1 := by decide +kernel
theorem hdV_X9_kindsOf : yX9_kindsOf.cls = RX9 ∧ yX9_kindsOf.cls ≠ "java/lang/invoke/MethodHandle" ∧ yX9_kindsOf.cls ≠ "java/lang/invoke/VarHandle" ∧ (parseMethodDescriptor yX9_kindsOf.desc).map (fun d => d.parameters.length) = some 1 := ⟨rfl, hdS_X9_kindsOf⟩
set_option maxHeartbeats 4000000 in
set_option maxRecDepth 100000 in
theorem c_X9_kindsOf (l : Launch) (dC : Nat → ClassId) (dI : Nat → Nat → Nat) (cy : Nat → ClassId) (a0 : Nat → Nat) (m0 : Mod) (p1 : Int32) (res : Int32) (h : G_X9_kindsOf m0 p1 = some res) : CT l (dC, dI) (TY cy) yX9_kindsOf cX9_kindsOf 4 (some .int) rm_X9_kindsOf [.ref (a0 0), .int p1] (wMod a0 cy m0) (wMod a0 cy m0) (some (.int res)) := by
  refine CT.mk_i (own := RX9) ⟨by decide, rfl⟩ (Nat.le_of_ble_eq_true rfl) ?_
  intro p e s mm args below meth cd A Q hx hb hml hown htg hN hK hA hP hD hS hE ls hl
  have hl : lv_has ls 4 [(0, .ref (a0 0)), (1, .int p1)] := hl
  replace h : _ = some res := h
  unfold G_X9_kindsOf at h
  obtain ⟨H, hH⟩ : ∃ H, H = s.heap := ⟨_, rfl⟩
  obtain ⟨locs, hlocs⟩ : ∃ locs : List Loc, locs = [] := ⟨_, rfl⟩
  rw [← hlocs] at hS ⊢
  have hS : va_S A s.heap H locs := by rw [hH]; exact hS
  rw [← hH] at hP ⊢
  refine lv_iconst (v := 0) hx hb dX9_kindsOf_0 (by decide) ?_
  refine lv_istore_n (lv' := [(2, .int 0), (0, .ref (a0 0)), (1, .int p1)]) hx hb dX9_kindsOf_1 rfl hl (by decide) rfl (fun ls hl => ?_)
  refine lv_iconst (v := 0) hx hb dX9_kindsOf_2 (by decide) ?_
  refine lv_istore_n (lv' := [(3, .int 0), (2, .int 0), (0, .ref (a0 0)), (1, .int p1)]) hx hb dX9_kindsOf_3 rfl hl (by decide) rfl (fun ls hl => ?_)
  have hL4 : ∀ (n4 : Nat) (l3_4 : Int32) (l2_4 : Int32) (l1_4 : Int32) (H : Heap) (locs : List Loc) (ls : Array Slot), G_X9_kindsOf_L4 m0 n4 l3_4 l2_4 l1_4 = some res → va_P (dC, dI) vwCl (wMod a0 cy m0) H → va_D A (wMod a0 cy m0) → va_S A s.heap H locs → lv_has ls 4 [(3, .int l3_4), (2, .int l2_4), (0, .ref (a0 0)), (1, .int l1_4)] → W p l e rm_X9_kindsOf s mm args below meth cd H locs 0 0 Q (F0 mm 4 ls []) := by
    intro n4
    induction n4 with
    | zero => intro l3_4 l2_4 l1_4 H locs ls h; exact absurd h (by simp [G_X9_kindsOf_L4])
    | succ n4 ih4 =>
      intro l3_4 l2_4 l1_4 H locs ls h hP hD hS hl
      rw [G_X9_kindsOf_L4] at h
      refine lv_iload_n hx hb dX9_kindsOf_4 rfl (lv_at hl 0 rfl) ?_
      refine lv_aload_n hx hb dX9_kindsOf_5 rfl (lv_at hl 2 rfl) ?_
      refine lv_iconst (v := 0) hx hb dX9_kindsOf_6 (by decide) ?_
      obtain ⟨v7, e7, h⟩ := bnd h
      refine cV (av := [.int 0]) (rest := [.int l3_4]) (st1 := [.int v7, .int l3_4]) (k1 := 0) (k2 := 0) (ci := 4) (q0 := 0) hx hb hml hown htg hN hK (c_X9_many l dC dI cy a0 m0 0 v7 e7) (g_V gw935 gw937 gw10 gw63 gw938) hdV_X9_many rfl ⟨⟨Nat.le_of_ble_eq_true rfl, Nat.le_of_ble_eq_true rfl⟩, Nat.le_of_ble_eq_true rfl, Nat.le_of_ble_eq_true rfl⟩ hP hD hS hA ⟨rfl, rfl⟩ rfl [0, 1, 2, 3, 4, 5, 6, 7, 8, 9, 10, 11, 12, 13, 14] [] rfl rfl rfl (by decide) (by decide) hl.1 rfl (Nat.le_of_ble_eq_true rfl) rfl rfl rfl dX9_kindsOf_7 (fun H locs hP hD hS => ?_)
      have hP : va_P (dC, dI) vwCl (wMod a0 cy m0) H := hP
      have hD : va_D A (wMod a0 cy m0) := hD
      refine lv_icmp_ge (tgt := 37) hx hb dX9_kindsOf_10 (by decide) (fun c10 => ?_) (fun c10 => ?_)
      · replace h := if_t h c10
        refine lv_iload_n hx hb dX9_kindsOf_37 rfl (lv_at hl 1 rfl) ?_
        obtain rfl := Option.some.inj h
        exact hE H locs 38 ls _ hP hD hS rfl dX9_kindsOf_38
      replace h := if_f h c10
      refine lv_iload_n hx hb dX9_kindsOf_13 rfl (lv_at hl 1 rfl) ?_
      refine lv_aload_n hx hb dX9_kindsOf_14 rfl (lv_at hl 2 rfl) ?_
      refine lv_iconst (v := 0) hx hb dX9_kindsOf_15 (by decide) ?_
      refine lv_iload_n hx hb dX9_kindsOf_16 rfl (lv_at hl 0 rfl) ?_
      obtain ⟨v17, e17, h⟩ := bnd h
      refine cV (av := [.int 0, .int l3_4]) (rest := [.int l2_4]) (st1 := [.int v17, .int l2_4]) (k1 := 0) (k2 := 0) (ci := 4) (q0 := 0) hx hb hml hown htg hN hK (c_X9_kind l dC dI cy a0 m0 0 l3_4 v17 e17) (g_V gw1046 gw1048 gw32 gw63 gw1049) hdV_X9_kind rfl ⟨⟨Nat.le_of_ble_eq_true rfl, Nat.le_of_ble_eq_true rfl⟩, Nat.le_of_ble_eq_true rfl, Nat.le_of_ble_eq_true rfl⟩ hP hD hS hA ⟨rfl, rfl⟩ rfl [0, 1, 2, 3, 4, 5, 6, 7, 8, 9, 10, 11, 12, 13, 14] [] rfl rfl rfl (by decide) (by decide) hl.1 rfl (Nat.le_of_ble_eq_true rfl) rfl rfl rfl dX9_kindsOf_17 (fun H locs hP hD hS => ?_)
      have hP : va_P (dC, dI) vwCl (wMod a0 cy m0) H := hP
      have hD : va_D A (wMod a0 cy m0) := hD
      refine lv_iload_n hx hb dX9_kindsOf_20 rfl (lv_at hl 3 rfl) ?_
      obtain ⟨b21, e21, h⟩ := bnd h
      have hr29 : ∀ (H : Heap) (locs : List Loc) (ls : Array Slot), va_P (dC, dI) vwCl (wMod a0 cy m0) H → va_D A (wMod a0 cy m0) → va_S A s.heap H locs → lv_has ls 4 [(3, .int l3_4), (2, .int l2_4), (0, .ref (a0 0)), (1, .int l1_4)] → W p l e rm_X9_kindsOf s mm args below meth cd H locs 0 0 Q (F0 mm 29 ls [.int b21, .int l2_4]) := by
        intro H locs ls hP hD hS hl
        refine lv_iadd hx hb dX9_kindsOf_29 ?_
        refine lv_istore_n (lv' := [(2, .int (l2_4 + b21)), (3, .int l3_4), (0, .ref (a0 0)), (1, .int l1_4)]) hx hb dX9_kindsOf_30 rfl hl (by decide) rfl (fun ls hl => ?_)
        refine lv_iinc (v := l3_4 + 1) (lv' := [(3, .int (l3_4 + 1)), (2, .int (l2_4 + b21)), (0, .ref (a0 0)), (1, .int l1_4)]) hx hb dX9_kindsOf_31 hl (k := 1) rfl rfl (by decide) rfl (fun ls hl => ?_)
        refine lv_goto (tgt := 4) hx hb dX9_kindsOf_34 (by decide) ?_
        exact ih4 (l3_4 + 1) (l2_4 + b21) l1_4 H locs ls h hP hD hS (lv_sub hl [0, 1, 2, 3] rfl)
      have h := e21
      clear e21
      refine lv_icmp_ne (tgt := 28) hx hb dX9_kindsOf_21 (by decide) (fun c21 => ?_) (fun c21 => ?_)
      · replace h := if_f h c21
        refine lv_iconst (v := 0) hx hb dX9_kindsOf_28 (by decide) ?_
        obtain rfl := Option.some.inj h
        exact hr29 H locs ls hP hD hS hl
      replace h := if_t h c21
      refine lv_iconst (v := 1) hx hb dX9_kindsOf_24 (by decide) ?_
      refine lv_goto (tgt := 29) hx hb dX9_kindsOf_25 (by decide) ?_
      obtain rfl := Option.some.inj h
      exact hr29 H locs ls hP hD hS hl
  exact hL4 FU 0 0 p1 H locs ls h hP hD hS (lv_sub hl [0, 1, 2, 3] rfl)
def G_X9_findSides_L19 (r7 : Mod → Int32 → Option (Mod))  : Nat → Mod → Int32 → Int32 → Option (Mod)
  | 0, _, _, _ => none
  | n19 + 1, m0_19, l2_19, l1_19 =>
    (G_X9_many m0_19 l1_19).bind fun v22 =>
    if v22 ≤ l2_19 then
      r7 m0_19 (l1_19 + 1)
    else
      (wr 40 (m_ringOf m0_19) (m_sides m0_19) l1_19).bind fun g37 =>
      (some (ms_ringOf m0_19 g37)).bind fun z0_47 =>
      (wr 40 (m_cornerOf z0_47) (m_sides (ms_ringOf m0_19 g37)) l2_19).bind fun g47 =>
      (G_X9_x (ms_cornerOf z0_47 g47) l1_19 l2_19).bind fun v59 =>
      (some (ms_cornerOf z0_47 g47)).bind fun z0_62 =>
      (wr 40 (m_ax z0_62) (m_sides (ms_cornerOf z0_47 g47)) v59).bind fun g62 =>
      (G_X9_y (ms_ax z0_62 g62) l1_19 l2_19).bind fun v74 =>
      (some (ms_ax z0_62 g62)).bind fun z0_77 =>
      (wr 40 (m_ay z0_77) (m_sides (ms_ax z0_62 g62)) v74).bind fun g77 =>
      (G_X9_next (ms_ay z0_77 g77) l1_19 l2_19).bind fun v91 =>
      (G_X9_x (ms_ay z0_77 g77) l1_19 v91).bind fun v94 =>
      (some (ms_ay z0_77 g77)).bind fun z0_97 =>
      (wr 40 (m_bx z0_97) (m_sides (ms_ay z0_77 g77)) v94).bind fun g97 =>
      (G_X9_next (ms_bx z0_97 g97) l1_19 l2_19).bind fun v111 =>
      (G_X9_y (ms_bx z0_97 g97) l1_19 v111).bind fun v114 =>
      (some (ms_bx z0_97 g97)).bind fun z0_117 =>
      (wr 40 (m_by z0_117) (m_sides (ms_bx z0_97 g97)) v114).bind fun g117 =>
      (some (ms_by z0_117 g117)).bind fun z0_125 =>
      (G_X9_findSides_L19 r7 n19) (ms_sides z0_125 ((m_sides (ms_by z0_117 g117)) + 1)) (l2_19 + 1) l1_19
def G_X9_findSides_L7   : Nat → Mod → Int32 → Option (Mod)
  | 0, _, _ => none
  | n7 + 1, m0_7, l1_7 =>
    (rd 85 (m_state m0_7) 0).bind fun v13 =>
    if v13 ≤ l1_7 then
      some m0_7
    else
      G_X9_findSides_L19 (G_X9_findSides_L7 n7) FU m0_7 0 l1_7
def G_X9_findSides (m0 : Mod) : Option (Mod) :=
  G_X9_findSides_L7 FU (ms_sides m0 0) 0
abbrev rm_X9_findSides : Room := { frames := 2, cells := 0, slots := 0, locals := 43 }
theorem hdS_X9_findSides : yX9_findSides.cls ≠ "java/lang/invoke/MethodHandle" ∧ yX9_findSides.cls ≠ "java/lang/invoke/VarHandle" ∧ (parseMethodDescriptor yX9_findSides.desc).map (fun d => d.parameters.length) = some 0 := by decide +kernel
theorem hdV_X9_findSides : yX9_findSides.cls = RX9 ∧ yX9_findSides.cls ≠ "java/lang/invoke/MethodHandle" ∧ yX9_findSides.cls ≠ "java/lang/invoke/VarHandle" ∧ (parseMethodDescriptor yX9_findSides.desc).map (fun d => d.parameters.length) = some 0 := ⟨rfl, hdS_X9_findSides⟩
set_option maxHeartbeats 4000000 in
set_option maxRecDepth 100000 in
theorem c_X9_findSides (l : Launch) (dC : Nat → ClassId) (dI : Nat → Nat → Nat) (cy : Nat → ClassId) (a0 : Nat → Nat) (m0 : Mod) (res : Mod) (h : G_X9_findSides m0 = some res) : CT l (dC, dI) (TY cy) yX9_findSides cX9_findSides 3 none rm_X9_findSides [.ref (a0 0)] (wMod a0 cy m0) (wMod a0 cy res) none := by
  refine CT.mk_v (own := RX9) ⟨by decide, rfl⟩ (Nat.le_of_ble_eq_true rfl) ?_
  intro p e s mm args below meth cd A Q hx hb hml hown htg hN hK hA hP hD hS hE ls hl
  have hl : lv_has ls 3 [(0, .ref (a0 0))] := hl
  replace h : _ = some res := h
  unfold G_X9_findSides at h
  obtain ⟨H, hH⟩ : ∃ H, H = s.heap := ⟨_, rfl⟩
  obtain ⟨locs, hlocs⟩ : ∃ locs : List Loc, locs = [] := ⟨_, rfl⟩
  rw [← hlocs] at hS ⊢
  have hS : va_S A s.heap H locs := by rw [hH]; exact hS
  rw [← hH] at hP ⊢
  refine lv_aload_n hx hb dX9_findSides_0 rfl (lv_at hl 0 rfl) ?_
  refine lv_iconst (v := 0) hx hb dX9_findSides_1 (by decide) ?_
  refine va_put (D := (dC, dI)) (ci := 4) (v := .int 0) (ty := .int) (C := RX9) (T := TX9) (N := 18) hx hb htg inX9 tyX9 tyX9_ok nmX9 hown hK hP hD hS 0 rfl rfl 10 (by decide) (htg _ gw860) (fun _ h9 => h9) rfl (by decide +kernel) rfl rfl (Nat.le_of_ble_eq_true rfl) dX9_findSides_2 (fun H locs hP hD hS => ?_)
  have hP : va_P (dC, dI) vwCl (wMod a0 cy (ms_sides m0 0)) H := hP
  have hD : va_D A (wMod a0 cy (ms_sides m0 0)) := hD
  refine lv_iconst (v := 0) hx hb dX9_findSides_5 (by decide) ?_
  refine lv_istore_n (lv' := [(1, .int 0), (0, .ref (a0 0))]) hx hb dX9_findSides_6 rfl hl (by decide) rfl (fun ls hl => ?_)
  have hL7 : ∀ (n7 : Nat) (m0_7 : Mod) (l1_7 : Int32) (H : Heap) (locs : List Loc) (ls : Array Slot), G_X9_findSides_L7 n7 m0_7 l1_7 = some res → va_P (dC, dI) vwCl (wMod a0 cy m0_7) H → va_D A (wMod a0 cy m0_7) → va_S A s.heap H locs → lv_has ls 3 [(1, .int l1_7), (0, .ref (a0 0))] → W p l e rm_X9_findSides s mm args below meth cd H locs 0 0 Q (F0 mm 7 ls []) := by
    intro n7
    induction n7 with
    | zero => intro m0_7 l1_7 H locs ls h; exact absurd h (by simp [G_X9_findSides_L7])
    | succ n7 ih7 =>
      intro m0_7 l1_7 H locs ls h hP hD hS hl
      rw [G_X9_findSides_L7] at h
      refine lv_iload_n hx hb dX9_findSides_7 rfl (lv_at hl 0 rfl) ?_
      refine lv_aload_n hx hb dX9_findSides_8 rfl (lv_at hl 1 rfl) ?_
      refine va_get (D := (dC, dI)) (ci := 4) (v := .ref (a0 1)) (C := RX9) (T := TX9) (N := 18) hx hb htg inX9 hown hK hP 0 rfl rfl 1 (by decide) (htg _ gw851) (fun _ h9 => h9) rfl dX9_findSides_9 ?_
      refine lv_iconst (v := 0) hx hb dX9_findSides_12 (by decide) ?_
      obtain ⟨v13, e13, h⟩ := bnd h
      refine x_iald (v := v13) hx hb hK hP 1 0 rfl rfl e13 dX9_findSides_13 ?_
      refine lv_icmp_ge (tgt := 140) hx hb dX9_findSides_14 (by decide) (fun c14 => ?_) (fun c14 => ?_)
      · replace h := if_t h c14
        obtain rfl := Option.some.inj h
        exact hE H locs 140 ls hP hD hS dX9_findSides_140
      replace h := if_f h c14
      refine lv_iconst (v := 0) hx hb dX9_findSides_17 (by decide) ?_
      refine lv_istore_n (lv' := [(2, .int 0), (1, .int l1_7), (0, .ref (a0 0))]) hx hb dX9_findSides_18 rfl hl (by decide) rfl (fun ls hl => ?_)
      have hL19 : ∀ (n19 : Nat) (m0_19 : Mod) (l2_19 : Int32) (l1_19 : Int32) (H : Heap) (locs : List Loc) (ls : Array Slot), G_X9_findSides_L19 (G_X9_findSides_L7 n7) n19 m0_19 l2_19 l1_19 = some res → va_P (dC, dI) vwCl (wMod a0 cy m0_19) H → va_D A (wMod a0 cy m0_19) → va_S A s.heap H locs → lv_has ls 3 [(2, .int l2_19), (1, .int l1_19), (0, .ref (a0 0))] → W p l e rm_X9_findSides s mm args below meth cd H locs 0 0 Q (F0 mm 19 ls []) := by
        intro n19
        induction n19 with
        | zero => intro m0_19 l2_19 l1_19 H locs ls h; exact absurd h (by simp [G_X9_findSides_L19])
        | succ n19 ih19 =>
          intro m0_19 l2_19 l1_19 H locs ls h hP hD hS hl
          rw [G_X9_findSides_L19] at h
          refine lv_iload_n hx hb dX9_findSides_19 rfl (lv_at hl 0 rfl) ?_
          refine lv_aload_n hx hb dX9_findSides_20 rfl (lv_at hl 2 rfl) ?_
          refine lv_iload_n hx hb dX9_findSides_21 rfl (lv_at hl 1 rfl) ?_
          obtain ⟨v22, e22, h⟩ := bnd h
          refine cV (av := [.int l1_19]) (rest := [.int l2_19]) (st1 := [.int v22, .int l2_19]) (k1 := 0) (k2 := 0) (ci := 4) (q0 := 0) hx hb hml hown htg hN hK (c_X9_many l dC dI cy a0 m0_19 l1_19 v22 e22) (g_V gw935 gw937 gw10 gw63 gw938) hdV_X9_many rfl ⟨⟨Nat.le_of_ble_eq_true rfl, Nat.le_of_ble_eq_true rfl⟩, Nat.le_of_ble_eq_true rfl, Nat.le_of_ble_eq_true rfl⟩ hP hD hS hA ⟨rfl, rfl⟩ rfl [0, 1, 2, 3, 4, 5, 6, 7, 8, 9, 10, 11, 12, 13, 14] [] rfl rfl rfl (by decide) (by decide) hl.1 rfl (Nat.le_of_ble_eq_true rfl) rfl rfl rfl dX9_findSides_22 (fun H locs hP hD hS => ?_)
          have hP : va_P (dC, dI) vwCl (wMod a0 cy m0_19) H := hP
          have hD : va_D A (wMod a0 cy m0_19) := hD
          refine lv_icmp_ge (tgt := 134) hx hb dX9_findSides_25 (by decide) (fun c25 => ?_) (fun c25 => ?_)
          · replace h := if_t h c25
            refine lv_iinc (v := l1_19 + 1) (lv' := [(1, .int (l1_19 + 1)), (2, .int l2_19), (0, .ref (a0 0))]) hx hb dX9_findSides_134 hl (k := 1) rfl rfl (by decide) rfl (fun ls hl => ?_)
            refine lv_goto (tgt := 7) hx hb dX9_findSides_137 (by decide) ?_
            exact ih7 m0_19 (l1_19 + 1) H locs ls h hP hD hS (lv_sub hl [0, 2] rfl)
          replace h := if_f h c25
          refine lv_aload_n hx hb dX9_findSides_28 rfl (lv_at hl 2 rfl) ?_
          refine va_get (D := (dC, dI)) (ci := 4) (v := .ref (a0 8)) (C := RX9) (T := TX9) (N := 18) hx hb htg inX9 hown hK hP 0 rfl rfl 11 (by decide) (htg _ gw861) (fun _ h9 => h9) rfl dX9_findSides_29 ?_
          refine lv_aload_n hx hb dX9_findSides_32 rfl (lv_at hl 2 rfl) ?_
          refine va_get (D := (dC, dI)) (ci := 4) (v := .int (m_sides m0_19)) (C := RX9) (T := TX9) (N := 18) hx hb htg inX9 hown hK hP 0 rfl rfl 10 (by decide) (htg _ gw860) (fun _ h9 => h9) rfl dX9_findSides_33 ?_
          refine lv_iload_n hx hb dX9_findSides_36 rfl (lv_at hl 1 rfl) ?_
          obtain ⟨g37, e37, h⟩ := bnd h
          refine x_iast (g := g37) hx hb hK hP hD hS 8 0 rfl rfl e37 dX9_findSides_37 (fun H locs hP hD hS => ?_)
          have hP : va_P (dC, dI) vwCl (wMod a0 cy (ms_ringOf m0_19 g37)) H := hP
          have hD : va_D A (wMod a0 cy (ms_ringOf m0_19 g37)) := hD
          refine lv_aload_n hx hb dX9_findSides_38 rfl (lv_at hl 2 rfl) ?_
          refine va_get (D := (dC, dI)) (ci := 4) (v := .ref (a0 9)) (C := RX9) (T := TX9) (N := 18) hx hb htg inX9 hown hK hP 0 rfl rfl 12 (by decide) (htg _ gw862) (fun _ h9 => h9) rfl dX9_findSides_39 ?_
          refine lv_aload_n hx hb dX9_findSides_42 rfl (lv_at hl 2 rfl) ?_
          refine va_get (D := (dC, dI)) (ci := 4) (v := .int (m_sides (ms_ringOf m0_19 g37))) (C := RX9) (T := TX9) (N := 18) hx hb htg inX9 hown hK hP 0 rfl rfl 10 (by decide) (htg _ gw860) (fun _ h9 => h9) rfl dX9_findSides_43 ?_
          refine lv_iload_n hx hb dX9_findSides_46 rfl (lv_at hl 0 rfl) ?_
          obtain ⟨z0_47, ez0_47, h⟩ := bnd h
          replace ez0_47 := Option.some.inj ez0_47
          rw [ez0_47] at hP hD
          obtain ⟨g47, e47, h⟩ := bnd h
          refine x_iast (g := g47) hx hb hK hP hD hS 9 0 rfl rfl e47 dX9_findSides_47 (fun H locs hP hD hS => ?_)
          have hP : va_P (dC, dI) vwCl (wMod a0 cy (ms_cornerOf z0_47 g47)) H := hP
          have hD : va_D A (wMod a0 cy (ms_cornerOf z0_47 g47)) := hD
          refine lv_aload_n hx hb dX9_findSides_48 rfl (lv_at hl 2 rfl) ?_
          refine va_get (D := (dC, dI)) (ci := 4) (v := .ref (a0 10)) (C := RX9) (T := TX9) (N := 18) hx hb htg inX9 hown hK hP 0 rfl rfl 13 (by decide) (htg _ gw863) (fun _ h9 => h9) rfl dX9_findSides_49 ?_
          refine lv_aload_n hx hb dX9_findSides_52 rfl (lv_at hl 2 rfl) ?_
          refine va_get (D := (dC, dI)) (ci := 4) (v := .int (m_sides (ms_cornerOf z0_47 g47))) (C := RX9) (T := TX9) (N := 18) hx hb htg inX9 hown hK hP 0 rfl rfl 10 (by decide) (htg _ gw860) (fun _ h9 => h9) rfl dX9_findSides_53 ?_
          refine lv_aload_n hx hb dX9_findSides_56 rfl (lv_at hl 2 rfl) ?_
          refine lv_iload_n hx hb dX9_findSides_57 rfl (lv_at hl 1 rfl) ?_
          refine lv_iload_n hx hb dX9_findSides_58 rfl (lv_at hl 0 rfl) ?_
          obtain ⟨v59, e59, h⟩ := bnd h
          refine cV (av := [.int l1_19, .int l2_19]) (rest := [.int (m_sides (ms_cornerOf z0_47 g47)), .ref (a0 10)]) (st1 := [.int v59, .int (m_sides (ms_cornerOf z0_47 g47)), .ref (a0 10)]) (k1 := 0) (k2 := 0) (ci := 4) (q0 := 0) hx hb hml hown htg hN hK (c_X9_x l dC dI cy a0 (ms_cornerOf z0_47 g47) l1_19 l2_19 v59 e59) (g_V gw947 gw949 gw13 gw63 gw950) hdV_X9_x rfl ⟨⟨Nat.le_of_ble_eq_true rfl, Nat.le_of_ble_eq_true rfl⟩, Nat.le_of_ble_eq_true rfl, Nat.le_of_ble_eq_true rfl⟩ hP hD hS hA ⟨rfl, rfl⟩ rfl [0, 1, 2, 3, 4, 5, 6, 7, 8, 9, 10, 11, 12, 13, 14] [] rfl rfl rfl (by decide) (by decide) hl.1 rfl (Nat.le_of_ble_eq_true rfl) rfl rfl rfl dX9_findSides_59 (fun H locs hP hD hS => ?_)
          have hP : va_P (dC, dI) vwCl (wMod a0 cy (ms_cornerOf z0_47 g47)) H := hP
          have hD : va_D A (wMod a0 cy (ms_cornerOf z0_47 g47)) := hD
          obtain ⟨z0_62, ez0_62, h⟩ := bnd h
          replace ez0_62 := Option.some.inj ez0_62
          rw [ez0_62] at hP hD
          obtain ⟨g62, e62, h⟩ := bnd h
          refine x_iast (g := g62) hx hb hK hP hD hS 10 0 rfl rfl e62 dX9_findSides_62 (fun H locs hP hD hS => ?_)
          have hP : va_P (dC, dI) vwCl (wMod a0 cy (ms_ax z0_62 g62)) H := hP
          have hD : va_D A (wMod a0 cy (ms_ax z0_62 g62)) := hD
          refine lv_aload_n hx hb dX9_findSides_63 rfl (lv_at hl 2 rfl) ?_
          refine va_get (D := (dC, dI)) (ci := 4) (v := .ref (a0 11)) (C := RX9) (T := TX9) (N := 18) hx hb htg inX9 hown hK hP 0 rfl rfl 14 (by decide) (htg _ gw864) (fun _ h9 => h9) rfl dX9_findSides_64 ?_
          refine lv_aload_n hx hb dX9_findSides_67 rfl (lv_at hl 2 rfl) ?_
          refine va_get (D := (dC, dI)) (ci := 4) (v := .int (m_sides (ms_ax z0_62 g62))) (C := RX9) (T := TX9) (N := 18) hx hb htg inX9 hown hK hP 0 rfl rfl 10 (by decide) (htg _ gw860) (fun _ h9 => h9) rfl dX9_findSides_68 ?_
          refine lv_aload_n hx hb dX9_findSides_71 rfl (lv_at hl 2 rfl) ?_
          refine lv_iload_n hx hb dX9_findSides_72 rfl (lv_at hl 1 rfl) ?_
          refine lv_iload_n hx hb dX9_findSides_73 rfl (lv_at hl 0 rfl) ?_
          obtain ⟨v74, e74, h⟩ := bnd h
          refine cV (av := [.int l1_19, .int l2_19]) (rest := [.int (m_sides (ms_ax z0_62 g62)), .ref (a0 11)]) (st1 := [.int v74, .int (m_sides (ms_ax z0_62 g62)), .ref (a0 11)]) (k1 := 0) (k2 := 0) (ci := 4) (q0 := 0) hx hb hml hown htg hN hK (c_X9_y l dC dI cy a0 (ms_ax z0_62 g62) l1_19 l2_19 v74 e74) (g_V gw951 gw953 gw14 gw63 gw954) hdV_X9_y rfl ⟨⟨Nat.le_of_ble_eq_true rfl, Nat.le_of_ble_eq_true rfl⟩, Nat.le_of_ble_eq_true rfl, Nat.le_of_ble_eq_true rfl⟩ hP hD hS hA ⟨rfl, rfl⟩ rfl [0, 1, 2, 3, 4, 5, 6, 7, 8, 9, 10, 11, 12, 13, 14] [] rfl rfl rfl (by decide) (by decide) hl.1 rfl (Nat.le_of_ble_eq_true rfl) rfl rfl rfl dX9_findSides_74 (fun H locs hP hD hS => ?_)
          have hP : va_P (dC, dI) vwCl (wMod a0 cy (ms_ax z0_62 g62)) H := hP
          have hD : va_D A (wMod a0 cy (ms_ax z0_62 g62)) := hD
          obtain ⟨z0_77, ez0_77, h⟩ := bnd h
          replace ez0_77 := Option.some.inj ez0_77
          rw [ez0_77] at hP hD
          obtain ⟨g77, e77, h⟩ := bnd h
          refine x_iast (g := g77) hx hb hK hP hD hS 11 0 rfl rfl e77 dX9_findSides_77 (fun H locs hP hD hS => ?_)
          have hP : va_P (dC, dI) vwCl (wMod a0 cy (ms_ay z0_77 g77)) H := hP
          have hD : va_D A (wMod a0 cy (ms_ay z0_77 g77)) := hD
          refine lv_aload_n hx hb dX9_findSides_78 rfl (lv_at hl 2 rfl) ?_
          refine va_get (D := (dC, dI)) (ci := 4) (v := .ref (a0 12)) (C := RX9) (T := TX9) (N := 18) hx hb htg inX9 hown hK hP 0 rfl rfl 15 (by decide) (htg _ gw865) (fun _ h9 => h9) rfl dX9_findSides_79 ?_
          refine lv_aload_n hx hb dX9_findSides_82 rfl (lv_at hl 2 rfl) ?_
          refine va_get (D := (dC, dI)) (ci := 4) (v := .int (m_sides (ms_ay z0_77 g77))) (C := RX9) (T := TX9) (N := 18) hx hb htg inX9 hown hK hP 0 rfl rfl 10 (by decide) (htg _ gw860) (fun _ h9 => h9) rfl dX9_findSides_83 ?_
          refine lv_aload_n hx hb dX9_findSides_86 rfl (lv_at hl 2 rfl) ?_
          refine lv_iload_n hx hb dX9_findSides_87 rfl (lv_at hl 1 rfl) ?_
          refine lv_aload_n hx hb dX9_findSides_88 rfl (lv_at hl 2 rfl) ?_
          refine lv_iload_n hx hb dX9_findSides_89 rfl (lv_at hl 1 rfl) ?_
          refine lv_iload_n hx hb dX9_findSides_90 rfl (lv_at hl 0 rfl) ?_
          obtain ⟨v91, e91, h⟩ := bnd h
          refine cV (av := [.int l1_19, .int l2_19]) (rest := [.int l1_19, .ref (a0 0), .int (m_sides (ms_ay z0_77 g77)), .ref (a0 12)]) (st1 := [.int v91, .int l1_19, .ref (a0 0), .int (m_sides (ms_ay z0_77 g77)), .ref (a0 12)]) (k1 := 0) (k2 := 0) (ci := 4) (q0 := 0) hx hb hml hown htg hN hK (c_X9_next l dC dI cy a0 (ms_ay z0_77 g77) l1_19 l2_19 v91 e91) (g_V gw955 gw957 gw15 gw63 gw958) hdV_X9_next rfl ⟨⟨Nat.le_of_ble_eq_true rfl, Nat.le_of_ble_eq_true rfl⟩, Nat.le_of_ble_eq_true rfl, Nat.le_of_ble_eq_true rfl⟩ hP hD hS hA ⟨rfl, rfl⟩ rfl [0, 1, 2, 3, 4, 5, 6, 7, 8, 9, 10, 11, 12, 13, 14] [] rfl rfl rfl (by decide) (by decide) hl.1 rfl (Nat.le_of_ble_eq_true rfl) rfl rfl rfl dX9_findSides_91 (fun H locs hP hD hS => ?_)
          have hP : va_P (dC, dI) vwCl (wMod a0 cy (ms_ay z0_77 g77)) H := hP
          have hD : va_D A (wMod a0 cy (ms_ay z0_77 g77)) := hD
          obtain ⟨v94, e94, h⟩ := bnd h
          refine cV (av := [.int l1_19, .int v91]) (rest := [.int (m_sides (ms_ay z0_77 g77)), .ref (a0 12)]) (st1 := [.int v94, .int (m_sides (ms_ay z0_77 g77)), .ref (a0 12)]) (k1 := 0) (k2 := 0) (ci := 4) (q0 := 0) hx hb hml hown htg hN hK (c_X9_x l dC dI cy a0 (ms_ay z0_77 g77) l1_19 v91 v94 e94) (g_V gw947 gw949 gw13 gw63 gw950) hdV_X9_x rfl ⟨⟨Nat.le_of_ble_eq_true rfl, Nat.le_of_ble_eq_true rfl⟩, Nat.le_of_ble_eq_true rfl, Nat.le_of_ble_eq_true rfl⟩ hP hD hS hA ⟨rfl, rfl⟩ rfl [0, 1, 2, 3, 4, 5, 6, 7, 8, 9, 10, 11, 12, 13, 14] [] rfl rfl rfl (by decide) (by decide) hl.1 rfl (Nat.le_of_ble_eq_true rfl) rfl rfl rfl dX9_findSides_94 (fun H locs hP hD hS => ?_)
          have hP : va_P (dC, dI) vwCl (wMod a0 cy (ms_ay z0_77 g77)) H := hP
          have hD : va_D A (wMod a0 cy (ms_ay z0_77 g77)) := hD
          obtain ⟨z0_97, ez0_97, h⟩ := bnd h
          replace ez0_97 := Option.some.inj ez0_97
          rw [ez0_97] at hP hD
          obtain ⟨g97, e97, h⟩ := bnd h
          refine x_iast (g := g97) hx hb hK hP hD hS 12 0 rfl rfl e97 dX9_findSides_97 (fun H locs hP hD hS => ?_)
          have hP : va_P (dC, dI) vwCl (wMod a0 cy (ms_bx z0_97 g97)) H := hP
          have hD : va_D A (wMod a0 cy (ms_bx z0_97 g97)) := hD
          refine lv_aload_n hx hb dX9_findSides_98 rfl (lv_at hl 2 rfl) ?_
          refine va_get (D := (dC, dI)) (ci := 4) (v := .ref (a0 13)) (C := RX9) (T := TX9) (N := 18) hx hb htg inX9 hown hK hP 0 rfl rfl 16 (by decide) (htg _ gw866) (fun _ h9 => h9) rfl dX9_findSides_99 ?_
          refine lv_aload_n hx hb dX9_findSides_102 rfl (lv_at hl 2 rfl) ?_
          refine va_get (D := (dC, dI)) (ci := 4) (v := .int (m_sides (ms_bx z0_97 g97))) (C := RX9) (T := TX9) (N := 18) hx hb htg inX9 hown hK hP 0 rfl rfl 10 (by decide) (htg _ gw860) (fun _ h9 => h9) rfl dX9_findSides_103 ?_
          refine lv_aload_n hx hb dX9_findSides_106 rfl (lv_at hl 2 rfl) ?_
          refine lv_iload_n hx hb dX9_findSides_107 rfl (lv_at hl 1 rfl) ?_
          refine lv_aload_n hx hb dX9_findSides_108 rfl (lv_at hl 2 rfl) ?_
          refine lv_iload_n hx hb dX9_findSides_109 rfl (lv_at hl 1 rfl) ?_
          refine lv_iload_n hx hb dX9_findSides_110 rfl (lv_at hl 0 rfl) ?_
          obtain ⟨v111, e111, h⟩ := bnd h
          refine cV (av := [.int l1_19, .int l2_19]) (rest := [.int l1_19, .ref (a0 0), .int (m_sides (ms_bx z0_97 g97)), .ref (a0 13)]) (st1 := [.int v111, .int l1_19, .ref (a0 0), .int (m_sides (ms_bx z0_97 g97)), .ref (a0 13)]) (k1 := 0) (k2 := 0) (ci := 4) (q0 := 0) hx hb hml hown htg hN hK (c_X9_next l dC dI cy a0 (ms_bx z0_97 g97) l1_19 l2_19 v111 e111) (g_V gw955 gw957 gw15 gw63 gw958) hdV_X9_next rfl ⟨⟨Nat.le_of_ble_eq_true rfl, Nat.le_of_ble_eq_true rfl⟩, Nat.le_of_ble_eq_true rfl, Nat.le_of_ble_eq_true rfl⟩ hP hD hS hA ⟨rfl, rfl⟩ rfl [0, 1, 2, 3, 4, 5, 6, 7, 8, 9, 10, 11, 12, 13, 14] [] rfl rfl rfl (by decide) (by decide) hl.1 rfl (Nat.le_of_ble_eq_true rfl) rfl rfl rfl dX9_findSides_111 (fun H locs hP hD hS => ?_)
          have hP : va_P (dC, dI) vwCl (wMod a0 cy (ms_bx z0_97 g97)) H := hP
          have hD : va_D A (wMod a0 cy (ms_bx z0_97 g97)) := hD
          obtain ⟨v114, e114, h⟩ := bnd h
          refine cV (av := [.int l1_19, .int v111]) (rest := [.int (m_sides (ms_bx z0_97 g97)), .ref (a0 13)]) (st1 := [.int v114, .int (m_sides (ms_bx z0_97 g97)), .ref (a0 13)]) (k1 := 0) (k2 := 0) (ci := 4) (q0 := 0) hx hb hml hown htg hN hK (c_X9_y l dC dI cy a0 (ms_bx z0_97 g97) l1_19 v111 v114 e114) (g_V gw951 gw953 gw14 gw63 gw954) hdV_X9_y rfl ⟨⟨Nat.le_of_ble_eq_true rfl, Nat.le_of_ble_eq_true rfl⟩, Nat.le_of_ble_eq_true rfl, Nat.le_of_ble_eq_true rfl⟩ hP hD hS hA ⟨rfl, rfl⟩ rfl [0, 1, 2, 3, 4, 5, 6, 7, 8, 9, 10, 11, 12, 13, 14] [] rfl rfl rfl (by decide) (by decide) hl.1 rfl (Nat.le_of_ble_eq_true rfl) rfl rfl rfl dX9_findSides_114 (fun H locs hP hD hS => ?_)
          have hP : va_P (dC, dI) vwCl (wMod a0 cy (ms_bx z0_97 g97)) H := hP
          have hD : va_D A (wMod a0 cy (ms_bx z0_97 g97)) := hD
          obtain ⟨z0_117, ez0_117, h⟩ := bnd h
          replace ez0_117 := Option.some.inj ez0_117
          rw [ez0_117] at hP hD
          obtain ⟨g117, e117, h⟩ := bnd h
          refine x_iast (g := g117) hx hb hK hP hD hS 13 0 rfl rfl e117 dX9_findSides_117 (fun H locs hP hD hS => ?_)
          have hP : va_P (dC, dI) vwCl (wMod a0 cy (ms_by z0_117 g117)) H := hP
          have hD : va_D A (wMod a0 cy (ms_by z0_117 g117)) := hD
          refine lv_aload_n hx hb dX9_findSides_118 rfl (lv_at hl 2 rfl) ?_
          refine lv_dup hx hb dX9_findSides_119 rfl ?_
          refine va_get (D := (dC, dI)) (ci := 4) (v := .int (m_sides (ms_by z0_117 g117))) (C := RX9) (T := TX9) (N := 18) hx hb htg inX9 hown hK hP 0 rfl rfl 10 (by decide) (htg _ gw860) (fun _ h9 => h9) rfl dX9_findSides_120 ?_
          refine lv_iconst (v := 1) hx hb dX9_findSides_123 (by decide) ?_
          refine lv_iadd hx hb dX9_findSides_124 ?_
          obtain ⟨z0_125, ez0_125, h⟩ := bnd h
          replace ez0_125 := Option.some.inj ez0_125
          rw [ez0_125] at hP hD
          refine va_put (D := (dC, dI)) (ci := 4) (v := .int ((m_sides (ms_by z0_117 g117)) + 1)) (ty := .int) (C := RX9) (T := TX9) (N := 18) hx hb htg inX9 tyX9 tyX9_ok nmX9 hown hK hP hD hS 0 rfl rfl 10 (by decide) (htg _ gw860) (fun _ h9 => h9) rfl (by decide +kernel) rfl rfl (Nat.le_of_ble_eq_true rfl) dX9_findSides_125 (fun H locs hP hD hS => ?_)
          have hP : va_P (dC, dI) vwCl (wMod a0 cy (ms_sides z0_125 ((m_sides (ms_by z0_117 g117)) + 1))) H := hP
          have hD : va_D A (wMod a0 cy (ms_sides z0_125 ((m_sides (ms_by z0_117 g117)) + 1))) := hD
          refine lv_iinc (v := l2_19 + 1) (lv' := [(2, .int (l2_19 + 1)), (1, .int l1_19), (0, .ref (a0 0))]) hx hb dX9_findSides_128 hl (k := 0) rfl rfl (by decide) rfl (fun ls hl => ?_)
          refine lv_goto (tgt := 19) hx hb dX9_findSides_131 (by decide) ?_
          exact ih19 (ms_sides z0_125 ((m_sides (ms_by z0_117 g117)) + 1)) (l2_19 + 1) l1_19 H locs ls h hP hD hS (lv_sub hl [0, 1, 2] rfl)
      exact hL19 FU m0_7 0 l1_7 H locs ls h hP hD hS (lv_sub hl [0, 1, 2] rfl)
  exact hL7 FU (ms_sides m0 0) 0 H locs ls h hP hD hS (lv_sub hl [0, 1] rfl)
def G_X9_isSameWay (p0 : Int32) (p1 : Int32) (p2 : Int32) (p3 : Int32) (p4 : Int32) (p5 : Int32) : Option (Int32) :=
  (G_X9_turnOf p0 p1 p2 p3 p4 p5).bind fun v8 =>
  if v8 = 0 then
    if ((p2 - p0) * (p4 - p0)) + ((p3 - p1) * (p5 - p1)) ≤ 0 then
      some 0
    else
      some 1
  else
    some 0
abbrev rm_X9_isSameWay : Room := { frames := 1, cells := 0, slots := 0, locals := 26 }
theorem hdS_X9_isSameWay : yX9_isSameWay.cls ≠ "java/lang/invoke/MethodHandle" ∧ yX9_isSameWay.cls ≠ "java/lang/invoke/VarHandle" ∧ (parseMethodDescriptor yX9_isSameWay.desc).map (fun d => d.parameters.length) = some 6 := by decide +kernel
set_option maxHeartbeats 4000000 in
set_option maxRecDepth 100000 in
theorem c_X9_isSameWay (l : Launch) (dC : Nat → ClassId) (dI : Nat → Nat → Nat) (cy : Nat → ClassId)  (p0 : Int32) (p1 : Int32) (p2 : Int32) (p3 : Int32) (p4 : Int32) (p5 : Int32) (res : Int32) (h : G_X9_isSameWay p0 p1 p2 p3 p4 p5 = some res) : CT l (dC, dI) (TY cy) yX9_isSameWay cX9_isSameWay 6 (some .boolean) rm_X9_isSameWay [.int p0, .int p1, .int p2, .int p3, .int p4, .int p5] ([]) ([]) (some (.int res)) := by
  refine CT.mk_z (own := RX9) ⟨by decide, rfl⟩ (Nat.le_of_ble_eq_true rfl) ?_
  intro p e s mm args below meth cd A Q hx hb hml hown htg hN hK hA hP hD hS hE ls hl
  have hl : lv_has ls 6 [(0, .int p0), (1, .int p1), (2, .int p2), (3, .int p3), (4, .int p4), (5, .int p5)] := hl
  replace h : _ = some res := h
  unfold G_X9_isSameWay at h
  obtain ⟨H, hH⟩ : ∃ H, H = s.heap := ⟨_, rfl⟩
  obtain ⟨locs, hlocs⟩ : ∃ locs : List Loc, locs = [] := ⟨_, rfl⟩
  rw [← hlocs] at hS ⊢
  have hS : va_S A s.heap H locs := by rw [hH]; exact hS
  rw [← hH] at hP ⊢
  refine lv_iload_n hx hb dX9_isSameWay_0 rfl (lv_at hl 0 rfl) ?_
  refine lv_iload_n hx hb dX9_isSameWay_1 rfl (lv_at hl 1 rfl) ?_
  refine lv_iload_n hx hb dX9_isSameWay_2 rfl (lv_at hl 2 rfl) ?_
  refine lv_iload_n hx hb dX9_isSameWay_3 rfl (lv_at hl 3 rfl) ?_
  refine lv_iload hx hb dX9_isSameWay_4 (lv_at hl 4 rfl) ?_
  refine lv_iload hx hb dX9_isSameWay_6 (lv_at hl 5 rfl) ?_
  obtain ⟨v8, e8, h⟩ := bnd h
  refine cS (av := [.int p0, .int p1, .int p2, .int p3, .int p4, .int p5]) (rest := []) (st1 := [.int v8]) (k1 := 0) (k2 := 0) hx hb hml hown htg hN hK (c_X9_turnOf l dC dI cy   p0 p1 p2 p3 p4 p5 v8 e8) (g_S gw963 gw964 gw63 gw965) hdS_X9_turnOf rfl ⟨⟨Nat.le_of_ble_eq_true rfl, Nat.le_of_ble_eq_true rfl⟩, Nat.le_of_ble_eq_true rfl, Nat.le_of_ble_eq_true rfl⟩ hP hD hS hA [] [] rfl rfl rfl (by decide) (by decide) hl.1 rfl (Nat.le_of_ble_eq_true rfl) rfl rfl rfl dX9_isSameWay_8 (fun H locs hP hD hS => ?_)
  have hP : va_P (dC, dI) vwCl ([]) H := hP
  have hD : va_D A ([]) := hD
  refine lv_if_ne (tgt := 38) hx hb dX9_isSameWay_11 (by decide) (fun c11 => ?_) (fun c11 => ?_)
  · replace h := if_f h c11
    refine lv_iconst (v := 0) hx hb dX9_isSameWay_38 (by decide) ?_
    obtain rfl := Option.some.inj h
    exact hE H locs 39 ls _ hP hD hS rfl (Or.inl rfl) dX9_isSameWay_39
  replace h := if_t h c11
  refine lv_iload_n hx hb dX9_isSameWay_14 rfl (lv_at hl 2 rfl) ?_
  refine lv_iload_n hx hb dX9_isSameWay_15 rfl (lv_at hl 0 rfl) ?_
  refine lv_isub hx hb dX9_isSameWay_16 ?_
  refine lv_iload hx hb dX9_isSameWay_17 (lv_at hl 4 rfl) ?_
  refine lv_iload_n hx hb dX9_isSameWay_19 rfl (lv_at hl 0 rfl) ?_
  refine lv_isub hx hb dX9_isSameWay_20 ?_
  refine lv_imul hx hb dX9_isSameWay_21 ?_
  refine lv_iload_n hx hb dX9_isSameWay_22 rfl (lv_at hl 3 rfl) ?_
  refine lv_iload_n hx hb dX9_isSameWay_23 rfl (lv_at hl 1 rfl) ?_
  refine lv_isub hx hb dX9_isSameWay_24 ?_
  refine lv_iload hx hb dX9_isSameWay_25 (lv_at hl 5 rfl) ?_
  refine lv_iload_n hx hb dX9_isSameWay_27 rfl (lv_at hl 1 rfl) ?_
  refine lv_isub hx hb dX9_isSameWay_28 ?_
  refine lv_imul hx hb dX9_isSameWay_29 ?_
  refine lv_iadd hx hb dX9_isSameWay_30 ?_
  refine lv_if_le (tgt := 38) hx hb dX9_isSameWay_31 (by decide) (fun c31 => ?_) (fun c31 => ?_)
  · replace h := if_t h c31
    refine lv_iconst (v := 0) hx hb dX9_isSameWay_38 (by decide) ?_
    obtain rfl := Option.some.inj h
    exact hE H locs 39 ls _ hP hD hS rfl (Or.inl rfl) dX9_isSameWay_39
  replace h := if_f h c31
  refine lv_iconst (v := 1) hx hb dX9_isSameWay_34 (by decide) ?_
  refine lv_goto (tgt := 39) hx hb dX9_isSameWay_35 (by decide) ?_
  obtain rfl := Option.some.inj h
  exact hE H locs 39 ls _ hP hD hS rfl (Or.inr rfl) dX9_isSameWay_39
def G_X9_isCrossed (m0 : Mod) (p1 : Int32) (p2 : Int32) (p3 : Int32) (p4 : Int32) (p5 : Int32) : Option (Int32) :=
  (rd 40 (m_ax m0) p1).bind fun v5 =>
  (rd 40 (m_ay m0) p1).bind fun v11 =>
  (rd 40 (m_bx m0) p1).bind fun v17 =>
  (rd 40 (m_by m0) p1).bind fun v23 =>
  (G_X9_turnOf v5 v11 v17 v23 p2 p3).bind fun v26 =>
  (rd 40 (m_ax m0) p1).bind fun v34 =>
  (rd 40 (m_ay m0) p1).bind fun v40 =>
  (rd 40 (m_bx m0) p1).bind fun v46 =>
  (rd 40 (m_by m0) p1).bind fun v52 =>
  (G_X9_turnOf v34 v40 v46 v52 p4 p5).bind fun v57 =>
  (rd 40 (m_ax m0) p1).bind fun v74 =>
  (rd 40 (m_ay m0) p1).bind fun v80 =>
  (G_X9_turnOf p2 p3 p4 p5 v74 v80).bind fun v81 =>
  (rd 40 (m_bx m0) p1).bind fun v95 =>
  (rd 40 (m_by m0) p1).bind fun v101 =>
  (G_X9_turnOf p2 p3 p4 p5 v95 v101).bind fun v102 =>
  if 0 ≤ v26 * v57 then
    some 0
  else
    if 0 ≤ v81 * v102 then
      some 0
    else
      some 1
abbrev rm_X9_isCrossed : Room := { frames := 1, cells := 0, slots := 0, locals := 26 }
theorem hdS_X9_isCrossed : yX9_isCrossed.cls ≠ "java/lang/invoke/MethodHandle" ∧ yX9_isCrossed.cls ≠ "java/lang/invoke/VarHandle" ∧ (parseMethodDescriptor yX9_isCrossed.desc).map (fun d => d.parameters.length) = some 5 := by decide +kernel
theorem hdV_X9_isCrossed : yX9_isCrossed.cls = RX9 ∧ yX9_isCrossed.cls ≠ "java/lang/invoke/MethodHandle" ∧ yX9_isCrossed.cls ≠ "java/lang/invoke/VarHandle" ∧ (parseMethodDescriptor yX9_isCrossed.desc).map (fun d => d.parameters.length) = some 5 := ⟨rfl, hdS_X9_isCrossed⟩
set_option maxHeartbeats 4000000 in
set_option maxRecDepth 100000 in
theorem c_X9_isCrossed (l : Launch) (dC : Nat → ClassId) (dI : Nat → Nat → Nat) (cy : Nat → ClassId) (a0 : Nat → Nat) (m0 : Mod) (p1 : Int32) (p2 : Int32) (p3 : Int32) (p4 : Int32) (p5 : Int32) (res : Int32) (h : G_X9_isCrossed m0 p1 p2 p3 p4 p5 = some res) : CT l (dC, dI) (TY cy) yX9_isCrossed cX9_isCrossed 8 (some .boolean) rm_X9_isCrossed [.ref (a0 0), .int p1, .int p2, .int p3, .int p4, .int p5] (wMod a0 cy m0) (wMod a0 cy m0) (some (.int res)) := by
  refine CT.mk_z (own := RX9) ⟨by decide, rfl⟩ (Nat.le_of_ble_eq_true rfl) ?_
  intro p e s mm args below meth cd A Q hx hb hml hown htg hN hK hA hP hD hS hE ls hl
  have hl : lv_has ls 8 [(0, .ref (a0 0)), (1, .int p1), (2, .int p2), (3, .int p3), (4, .int p4), (5, .int p5)] := hl
  replace h : _ = some res := h
  unfold G_X9_isCrossed at h
  obtain ⟨H, hH⟩ : ∃ H, H = s.heap := ⟨_, rfl⟩
  obtain ⟨locs, hlocs⟩ : ∃ locs : List Loc, locs = [] := ⟨_, rfl⟩
  rw [← hlocs] at hS ⊢
  have hS : va_S A s.heap H locs := by rw [hH]; exact hS
  rw [← hH] at hP ⊢
  refine lv_aload_n hx hb dX9_isCrossed_0 rfl (lv_at hl 0 rfl) ?_
  refine va_get (D := (dC, dI)) (ci := 4) (v := .ref (a0 10)) (C := RX9) (T := TX9) (N := 18) hx hb htg inX9 hown hK hP 0 rfl rfl 13 (by decide) (htg _ gw863) (fun _ h9 => h9) rfl dX9_isCrossed_1 ?_
  refine lv_iload_n hx hb dX9_isCrossed_4 rfl (lv_at hl 1 rfl) ?_
  obtain ⟨v5, e5, h⟩ := bnd h
  refine x_iald (v := v5) hx hb hK hP 10 0 rfl rfl e5 dX9_isCrossed_5 ?_
  refine lv_aload_n hx hb dX9_isCrossed_6 rfl (lv_at hl 0 rfl) ?_
  refine va_get (D := (dC, dI)) (ci := 4) (v := .ref (a0 11)) (C := RX9) (T := TX9) (N := 18) hx hb htg inX9 hown hK hP 0 rfl rfl 14 (by decide) (htg _ gw864) (fun _ h9 => h9) rfl dX9_isCrossed_7 ?_
  refine lv_iload_n hx hb dX9_isCrossed_10 rfl (lv_at hl 1 rfl) ?_
  obtain ⟨v11, e11, h⟩ := bnd h
  refine x_iald (v := v11) hx hb hK hP 11 0 rfl rfl e11 dX9_isCrossed_11 ?_
  refine lv_aload_n hx hb dX9_isCrossed_12 rfl (lv_at hl 0 rfl) ?_
  refine va_get (D := (dC, dI)) (ci := 4) (v := .ref (a0 12)) (C := RX9) (T := TX9) (N := 18) hx hb htg inX9 hown hK hP 0 rfl rfl 15 (by decide) (htg _ gw865) (fun _ h9 => h9) rfl dX9_isCrossed_13 ?_
  refine lv_iload_n hx hb dX9_isCrossed_16 rfl (lv_at hl 1 rfl) ?_
  obtain ⟨v17, e17, h⟩ := bnd h
  refine x_iald (v := v17) hx hb hK hP 12 0 rfl rfl e17 dX9_isCrossed_17 ?_
  refine lv_aload_n hx hb dX9_isCrossed_18 rfl (lv_at hl 0 rfl) ?_
  refine va_get (D := (dC, dI)) (ci := 4) (v := .ref (a0 13)) (C := RX9) (T := TX9) (N := 18) hx hb htg inX9 hown hK hP 0 rfl rfl 16 (by decide) (htg _ gw866) (fun _ h9 => h9) rfl dX9_isCrossed_19 ?_
  refine lv_iload_n hx hb dX9_isCrossed_22 rfl (lv_at hl 1 rfl) ?_
  obtain ⟨v23, e23, h⟩ := bnd h
  refine x_iald (v := v23) hx hb hK hP 13 0 rfl rfl e23 dX9_isCrossed_23 ?_
  refine lv_iload_n hx hb dX9_isCrossed_24 rfl (lv_at hl 2 rfl) ?_
  refine lv_iload_n hx hb dX9_isCrossed_25 rfl (lv_at hl 3 rfl) ?_
  obtain ⟨v26, e26, h⟩ := bnd h
  refine cS (av := [.int v5, .int v11, .int v17, .int v23, .int p2, .int p3]) (rest := []) (st1 := [.int v26]) (k1 := 0) (k2 := 0) hx hb hml hown htg hN hK (c_X9_turnOf l dC dI cy   v5 v11 v17 v23 p2 p3 v26 e26) (g_S gw963 gw964 gw63 gw965) hdS_X9_turnOf rfl ⟨⟨Nat.le_of_ble_eq_true rfl, Nat.le_of_ble_eq_true rfl⟩, Nat.le_of_ble_eq_true rfl, Nat.le_of_ble_eq_true rfl⟩ hP hD hS hA [] [0, 1, 2, 3, 4, 5, 6, 7, 8, 9, 10, 11, 12, 13, 14] rfl rfl rfl (by decide) (by decide) hl.1 rfl (Nat.le_of_ble_eq_true rfl) rfl rfl rfl dX9_isCrossed_26 (fun H locs hP hD hS => ?_)
  obtain ⟨hP, hD⟩ := x_perm (ws' := wMod a0 cy m0) hP hD [0, 1, 2, 3, 4, 5, 6, 7, 8, 9, 10, 11, 12, 13, 14] (by decide) rfl rfl
  refine lv_aload_n hx hb dX9_isCrossed_29 rfl (lv_at hl 0 rfl) ?_
  refine va_get (D := (dC, dI)) (ci := 4) (v := .ref (a0 10)) (C := RX9) (T := TX9) (N := 18) hx hb htg inX9 hown hK hP 0 rfl rfl 13 (by decide) (htg _ gw863) (fun _ h9 => h9) rfl dX9_isCrossed_30 ?_
  refine lv_iload_n hx hb dX9_isCrossed_33 rfl (lv_at hl 1 rfl) ?_
  obtain ⟨v34, e34, h⟩ := bnd h
  refine x_iald (v := v34) hx hb hK hP 10 0 rfl rfl e34 dX9_isCrossed_34 ?_
  refine lv_aload_n hx hb dX9_isCrossed_35 rfl (lv_at hl 0 rfl) ?_
  refine va_get (D := (dC, dI)) (ci := 4) (v := .ref (a0 11)) (C := RX9) (T := TX9) (N := 18) hx hb htg inX9 hown hK hP 0 rfl rfl 14 (by decide) (htg _ gw864) (fun _ h9 => h9) rfl dX9_isCrossed_36 ?_
  refine lv_iload_n hx hb dX9_isCrossed_39 rfl (lv_at hl 1 rfl) ?_
  obtain ⟨v40, e40, h⟩ := bnd h
  refine x_iald (v := v40) hx hb hK hP 11 0 rfl rfl e40 dX9_isCrossed_40 ?_
  refine lv_aload_n hx hb dX9_isCrossed_41 rfl (lv_at hl 0 rfl) ?_
  refine va_get (D := (dC, dI)) (ci := 4) (v := .ref (a0 12)) (C := RX9) (T := TX9) (N := 18) hx hb htg inX9 hown hK hP 0 rfl rfl 15 (by decide) (htg _ gw865) (fun _ h9 => h9) rfl dX9_isCrossed_42 ?_
  refine lv_iload_n hx hb dX9_isCrossed_45 rfl (lv_at hl 1 rfl) ?_
  obtain ⟨v46, e46, h⟩ := bnd h
  refine x_iald (v := v46) hx hb hK hP 12 0 rfl rfl e46 dX9_isCrossed_46 ?_
  refine lv_aload_n hx hb dX9_isCrossed_47 rfl (lv_at hl 0 rfl) ?_
  refine va_get (D := (dC, dI)) (ci := 4) (v := .ref (a0 13)) (C := RX9) (T := TX9) (N := 18) hx hb htg inX9 hown hK hP 0 rfl rfl 16 (by decide) (htg _ gw866) (fun _ h9 => h9) rfl dX9_isCrossed_48 ?_
  refine lv_iload_n hx hb dX9_isCrossed_51 rfl (lv_at hl 1 rfl) ?_
  obtain ⟨v52, e52, h⟩ := bnd h
  refine x_iald (v := v52) hx hb hK hP 13 0 rfl rfl e52 dX9_isCrossed_52 ?_
  refine lv_iload hx hb dX9_isCrossed_53 (lv_at hl 4 rfl) ?_
  refine lv_iload hx hb dX9_isCrossed_55 (lv_at hl 5 rfl) ?_
  obtain ⟨v57, e57, h⟩ := bnd h
  refine cS (av := [.int v34, .int v40, .int v46, .int v52, .int p4, .int p5]) (rest := [.int v26]) (st1 := [.int v57, .int v26]) (k1 := 0) (k2 := 0) hx hb hml hown htg hN hK (c_X9_turnOf l dC dI cy   v34 v40 v46 v52 p4 p5 v57 e57) (g_S gw963 gw964 gw63 gw965) hdS_X9_turnOf rfl ⟨⟨Nat.le_of_ble_eq_true rfl, Nat.le_of_ble_eq_true rfl⟩, Nat.le_of_ble_eq_true rfl, Nat.le_of_ble_eq_true rfl⟩ hP hD hS hA [] [0, 1, 2, 3, 4, 5, 6, 7, 8, 9, 10, 11, 12, 13, 14] rfl rfl rfl (by decide) (by decide) hl.1 rfl (Nat.le_of_ble_eq_true rfl) rfl rfl rfl dX9_isCrossed_57 (fun H locs hP hD hS => ?_)
  obtain ⟨hP, hD⟩ := x_perm (ws' := wMod a0 cy m0) hP hD [0, 1, 2, 3, 4, 5, 6, 7, 8, 9, 10, 11, 12, 13, 14] (by decide) rfl rfl
  refine lv_imul hx hb dX9_isCrossed_60 ?_
  refine lv_istore (lv' := [(6, .int (v26 * v57)), (0, .ref (a0 0)), (1, .int p1), (2, .int p2), (3, .int p3), (4, .int p4), (5, .int p5)]) hx hb dX9_isCrossed_61 hl (by decide) rfl (fun ls hl => ?_)
  refine lv_iload_n hx hb dX9_isCrossed_63 rfl (lv_at hl 3 rfl) ?_
  refine lv_iload_n hx hb dX9_isCrossed_64 rfl (lv_at hl 4 rfl) ?_
  refine lv_iload hx hb dX9_isCrossed_65 (lv_at hl 5 rfl) ?_
  refine lv_iload hx hb dX9_isCrossed_67 (lv_at hl 6 rfl) ?_
  refine lv_aload_n hx hb dX9_isCrossed_69 rfl (lv_at hl 1 rfl) ?_
  refine va_get (D := (dC, dI)) (ci := 4) (v := .ref (a0 10)) (C := RX9) (T := TX9) (N := 18) hx hb htg inX9 hown hK hP 0 rfl rfl 13 (by decide) (htg _ gw863) (fun _ h9 => h9) rfl dX9_isCrossed_70 ?_
  refine lv_iload_n hx hb dX9_isCrossed_73 rfl (lv_at hl 2 rfl) ?_
  obtain ⟨v74, e74, h⟩ := bnd h
  refine x_iald (v := v74) hx hb hK hP 10 0 rfl rfl e74 dX9_isCrossed_74 ?_
  refine lv_aload_n hx hb dX9_isCrossed_75 rfl (lv_at hl 1 rfl) ?_
  refine va_get (D := (dC, dI)) (ci := 4) (v := .ref (a0 11)) (C := RX9) (T := TX9) (N := 18) hx hb htg inX9 hown hK hP 0 rfl rfl 14 (by decide) (htg _ gw864) (fun _ h9 => h9) rfl dX9_isCrossed_76 ?_
  refine lv_iload_n hx hb dX9_isCrossed_79 rfl (lv_at hl 2 rfl) ?_
  obtain ⟨v80, e80, h⟩ := bnd h
  refine x_iald (v := v80) hx hb hK hP 11 0 rfl rfl e80 dX9_isCrossed_80 ?_
  obtain ⟨v81, e81, h⟩ := bnd h
  refine cS (av := [.int p2, .int p3, .int p4, .int p5, .int v74, .int v80]) (rest := []) (st1 := [.int v81]) (k1 := 0) (k2 := 0) hx hb hml hown htg hN hK (c_X9_turnOf l dC dI cy   p2 p3 p4 p5 v74 v80 v81 e81) (g_S gw963 gw964 gw63 gw965) hdS_X9_turnOf rfl ⟨⟨Nat.le_of_ble_eq_true rfl, Nat.le_of_ble_eq_true rfl⟩, Nat.le_of_ble_eq_true rfl, Nat.le_of_ble_eq_true rfl⟩ hP hD hS hA [] [0, 1, 2, 3, 4, 5, 6, 7, 8, 9, 10, 11, 12, 13, 14] rfl rfl rfl (by decide) (by decide) hl.1 rfl (Nat.le_of_ble_eq_true rfl) rfl rfl rfl dX9_isCrossed_81 (fun H locs hP hD hS => ?_)
  obtain ⟨hP, hD⟩ := x_perm (ws' := wMod a0 cy m0) hP hD [0, 1, 2, 3, 4, 5, 6, 7, 8, 9, 10, 11, 12, 13, 14] (by decide) rfl rfl
  refine lv_iload_n hx hb dX9_isCrossed_84 rfl (lv_at hl 3 rfl) ?_
  refine lv_iload_n hx hb dX9_isCrossed_85 rfl (lv_at hl 4 rfl) ?_
  refine lv_iload hx hb dX9_isCrossed_86 (lv_at hl 5 rfl) ?_
  refine lv_iload hx hb dX9_isCrossed_88 (lv_at hl 6 rfl) ?_
  refine lv_aload_n hx hb dX9_isCrossed_90 rfl (lv_at hl 1 rfl) ?_
  refine va_get (D := (dC, dI)) (ci := 4) (v := .ref (a0 12)) (C := RX9) (T := TX9) (N := 18) hx hb htg inX9 hown hK hP 0 rfl rfl 15 (by decide) (htg _ gw865) (fun _ h9 => h9) rfl dX9_isCrossed_91 ?_
  refine lv_iload_n hx hb dX9_isCrossed_94 rfl (lv_at hl 2 rfl) ?_
  obtain ⟨v95, e95, h⟩ := bnd h
  refine x_iald (v := v95) hx hb hK hP 12 0 rfl rfl e95 dX9_isCrossed_95 ?_
  refine lv_aload_n hx hb dX9_isCrossed_96 rfl (lv_at hl 1 rfl) ?_
  refine va_get (D := (dC, dI)) (ci := 4) (v := .ref (a0 13)) (C := RX9) (T := TX9) (N := 18) hx hb htg inX9 hown hK hP 0 rfl rfl 16 (by decide) (htg _ gw866) (fun _ h9 => h9) rfl dX9_isCrossed_97 ?_
  refine lv_iload_n hx hb dX9_isCrossed_100 rfl (lv_at hl 2 rfl) ?_
  obtain ⟨v101, e101, h⟩ := bnd h
  refine x_iald (v := v101) hx hb hK hP 13 0 rfl rfl e101 dX9_isCrossed_101 ?_
  obtain ⟨v102, e102, h⟩ := bnd h
  refine cS (av := [.int p2, .int p3, .int p4, .int p5, .int v95, .int v101]) (rest := [.int v81]) (st1 := [.int v102, .int v81]) (k1 := 0) (k2 := 0) hx hb hml hown htg hN hK (c_X9_turnOf l dC dI cy   p2 p3 p4 p5 v95 v101 v102 e102) (g_S gw963 gw964 gw63 gw965) hdS_X9_turnOf rfl ⟨⟨Nat.le_of_ble_eq_true rfl, Nat.le_of_ble_eq_true rfl⟩, Nat.le_of_ble_eq_true rfl, Nat.le_of_ble_eq_true rfl⟩ hP hD hS hA [] [0, 1, 2, 3, 4, 5, 6, 7, 8, 9, 10, 11, 12, 13, 14] rfl rfl rfl (by decide) (by decide) hl.1 rfl (Nat.le_of_ble_eq_true rfl) rfl rfl rfl dX9_isCrossed_102 (fun H locs hP hD hS => ?_)
  obtain ⟨hP, hD⟩ := x_perm (ws' := wMod a0 cy m0) hP hD [0, 1, 2, 3, 4, 5, 6, 7, 8, 9, 10, 11, 12, 13, 14] (by decide) rfl rfl
  refine lv_imul hx hb dX9_isCrossed_105 ?_
  refine lv_istore (lv' := [(7, .int (v81 * v102)), (6, .int (v26 * v57)), (0, .ref (a0 0)), (1, .int p1), (2, .int p2), (3, .int p3), (4, .int p4), (5, .int p5)]) hx hb dX9_isCrossed_106 hl (by decide) rfl (fun ls hl => ?_)
  refine lv_iload hx hb dX9_isCrossed_108 (lv_at hl 1 rfl) ?_
  refine lv_if_ge (tgt := 122) hx hb dX9_isCrossed_110 (by decide) (fun c110 => ?_) (fun c110 => ?_)
  · replace h := if_t h c110
    refine lv_iconst (v := 0) hx hb dX9_isCrossed_122 (by decide) ?_
    obtain rfl := Option.some.inj h
    exact hE H locs 123 ls _ hP hD hS rfl (Or.inl rfl) dX9_isCrossed_123
  replace h := if_f h c110
  refine lv_iload hx hb dX9_isCrossed_113 (lv_at hl 0 rfl) ?_
  refine lv_if_ge (tgt := 122) hx hb dX9_isCrossed_115 (by decide) (fun c115 => ?_) (fun c115 => ?_)
  · replace h := if_t h c115
    refine lv_iconst (v := 0) hx hb dX9_isCrossed_122 (by decide) ?_
    obtain rfl := Option.some.inj h
    exact hE H locs 123 ls _ hP hD hS rfl (Or.inl rfl) dX9_isCrossed_123
  replace h := if_f h c115
  refine lv_iconst (v := 1) hx hb dX9_isCrossed_118 (by decide) ?_
  refine lv_goto (tgt := 123) hx hb dX9_isCrossed_119 (by decide) ?_
  obtain rfl := Option.some.inj h
  exact hE H locs 123 ls _ hP hD hS rfl (Or.inr rfl) dX9_isCrossed_123
def G_X9_isMet (m0 : Mod) (p1 : Int32) (p2 : Int32) (p3 : Int32) (p4 : Int32) (p5 : Int32) : Option (Int32) :=
  (rd 40 (m_ax m0) p1).bind fun v5 =>
  (rd 40 (m_ay m0) p1).bind fun v11 =>
  (rd 40 (m_bx m0) p1).bind fun v17 =>
  (rd 40 (m_by m0) p1).bind fun v23 =>
  (G_X9_isOn v5 v11 v17 v23 p2 p3).bind fun v26 =>
  ((if v26 = 0 then
      (rd 40 (m_ax m0) p1).bind fun v37 =>
      (rd 40 (m_ay m0) p1).bind fun v43 =>
      (rd 40 (m_bx m0) p1).bind fun v49 =>
      (rd 40 (m_by m0) p1).bind fun v55 =>
      (G_X9_isOn v37 v43 v49 v55 p4 p5).bind fun v60 =>
      if v60 = 0 then
        some 0
      else
        some 1
    else
      some 1) : Option (Int32)).bind fun b29 =>
  if b29 = 0 then
    (rd 40 (m_ax m0) p1).bind fun v89 =>
    (rd 40 (m_ay m0) p1).bind fun v95 =>
    (G_X9_isOn p2 p3 p4 p5 v89 v95).bind fun v96 =>
    if v96 = 0 then
      (rd 40 (m_bx m0) p1).bind fun v113 =>
      (rd 40 (m_by m0) p1).bind fun v119 =>
      (G_X9_isOn p2 p3 p4 p5 v113 v119).bind fun v120 =>
      if v120 = 0 then
        (G_X9_isCrossed m0 p1 p2 p3 p4 p5).bind fun v134 =>
        if v134 = 0 then
          some 0
        else
          some 1
      else
        some 1
    else
      some 1
  else
    some 1
abbrev rm_X9_isMet : Room := { frames := 2, cells := 0, slots := 0, locals := 53 }
theorem hdS_X9_isMet : yX9_isMet.cls ≠ "java/lang/invoke/MethodHandle" ∧ yX9_isMet.cls ≠ "java/lang/invoke/VarHandle" ∧ (parseMethodDescriptor yX9_isMet.desc).map (fun d => d.parameters.length) = some 5 := by decide +kernel
theorem hdV_X9_isMet : yX9_isMet.cls = RX9 ∧ yX9_isMet.cls ≠ "java/lang/invoke/MethodHandle" ∧ yX9_isMet.cls ≠ "java/lang/invoke/VarHandle" ∧ (parseMethodDescriptor yX9_isMet.desc).map (fun d => d.parameters.length) = some 5 := ⟨rfl, hdS_X9_isMet⟩
set_option maxHeartbeats 4000000 in
set_option maxRecDepth 100000 in
theorem c_X9_isMet (l : Launch) (dC : Nat → ClassId) (dI : Nat → Nat → Nat) (cy : Nat → ClassId) (a0 : Nat → Nat) (m0 : Mod) (p1 : Int32) (p2 : Int32) (p3 : Int32) (p4 : Int32) (p5 : Int32) (res : Int32) (h : G_X9_isMet m0 p1 p2 p3 p4 p5 = some res) : CT l (dC, dI) (TY cy) yX9_isMet cX9_isMet 7 (some .boolean) rm_X9_isMet [.ref (a0 0), .int p1, .int p2, .int p3, .int p4, .int p5] (wMod a0 cy m0) (wMod a0 cy m0) (some (.int res)) := by
  refine CT.mk_z (own := RX9) ⟨by decide, rfl⟩ (Nat.le_of_ble_eq_true rfl) ?_
  intro p e s mm args below meth cd A Q hx hb hml hown htg hN hK hA hP hD hS hE ls hl
  have hl : lv_has ls 7 [(0, .ref (a0 0)), (1, .int p1), (2, .int p2), (3, .int p3), (4, .int p4), (5, .int p5)] := hl
  replace h : _ = some res := h
  unfold G_X9_isMet at h
  obtain ⟨H, hH⟩ : ∃ H, H = s.heap := ⟨_, rfl⟩
  obtain ⟨locs, hlocs⟩ : ∃ locs : List Loc, locs = [] := ⟨_, rfl⟩
  rw [← hlocs] at hS ⊢
  have hS : va_S A s.heap H locs := by rw [hH]; exact hS
  rw [← hH] at hP ⊢
  refine lv_aload_n hx hb dX9_isMet_0 rfl (lv_at hl 0 rfl) ?_
  refine va_get (D := (dC, dI)) (ci := 4) (v := .ref (a0 10)) (C := RX9) (T := TX9) (N := 18) hx hb htg inX9 hown hK hP 0 rfl rfl 13 (by decide) (htg _ gw863) (fun _ h9 => h9) rfl dX9_isMet_1 ?_
  refine lv_iload_n hx hb dX9_isMet_4 rfl (lv_at hl 1 rfl) ?_
  obtain ⟨v5, e5, h⟩ := bnd h
  refine x_iald (v := v5) hx hb hK hP 10 0 rfl rfl e5 dX9_isMet_5 ?_
  refine lv_aload_n hx hb dX9_isMet_6 rfl (lv_at hl 0 rfl) ?_
  refine va_get (D := (dC, dI)) (ci := 4) (v := .ref (a0 11)) (C := RX9) (T := TX9) (N := 18) hx hb htg inX9 hown hK hP 0 rfl rfl 14 (by decide) (htg _ gw864) (fun _ h9 => h9) rfl dX9_isMet_7 ?_
  refine lv_iload_n hx hb dX9_isMet_10 rfl (lv_at hl 1 rfl) ?_
  obtain ⟨v11, e11, h⟩ := bnd h
  refine x_iald (v := v11) hx hb hK hP 11 0 rfl rfl e11 dX9_isMet_11 ?_
  refine lv_aload_n hx hb dX9_isMet_12 rfl (lv_at hl 0 rfl) ?_
  refine va_get (D := (dC, dI)) (ci := 4) (v := .ref (a0 12)) (C := RX9) (T := TX9) (N := 18) hx hb htg inX9 hown hK hP 0 rfl rfl 15 (by decide) (htg _ gw865) (fun _ h9 => h9) rfl dX9_isMet_13 ?_
  refine lv_iload_n hx hb dX9_isMet_16 rfl (lv_at hl 1 rfl) ?_
  obtain ⟨v17, e17, h⟩ := bnd h
  refine x_iald (v := v17) hx hb hK hP 12 0 rfl rfl e17 dX9_isMet_17 ?_
  refine lv_aload_n hx hb dX9_isMet_18 rfl (lv_at hl 0 rfl) ?_
  refine va_get (D := (dC, dI)) (ci := 4) (v := .ref (a0 13)) (C := RX9) (T := TX9) (N := 18) hx hb htg inX9 hown hK hP 0 rfl rfl 16 (by decide) (htg _ gw866) (fun _ h9 => h9) rfl dX9_isMet_19 ?_
  refine lv_iload_n hx hb dX9_isMet_22 rfl (lv_at hl 1 rfl) ?_
  obtain ⟨v23, e23, h⟩ := bnd h
  refine x_iald (v := v23) hx hb hK hP 13 0 rfl rfl e23 dX9_isMet_23 ?_
  refine lv_iload_n hx hb dX9_isMet_24 rfl (lv_at hl 2 rfl) ?_
  refine lv_iload_n hx hb dX9_isMet_25 rfl (lv_at hl 3 rfl) ?_
  obtain ⟨v26, e26, h⟩ := bnd h
  refine cS (av := [.int v5, .int v11, .int v17, .int v23, .int p2, .int p3]) (rest := []) (st1 := [.int v26]) (k1 := 0) (k2 := 0) hx hb hml hown htg hN hK (c_X9_isOn l dC dI cy   v5 v11 v17 v23 p2 p3 v26 e26) (g_S gw981 gw982 gw63 gw983) hdS_X9_isOn rfl ⟨⟨Nat.le_of_ble_eq_true rfl, Nat.le_of_ble_eq_true rfl⟩, Nat.le_of_ble_eq_true rfl, Nat.le_of_ble_eq_true rfl⟩ hP hD hS hA [] [0, 1, 2, 3, 4, 5, 6, 7, 8, 9, 10, 11, 12, 13, 14] rfl rfl rfl (by decide) (by decide) hl.1 rfl (Nat.le_of_ble_eq_true rfl) rfl rfl rfl dX9_isMet_26 (fun H locs hP hD hS => ?_)
  obtain ⟨hP, hD⟩ := x_perm (ws' := wMod a0 cy m0) hP hD [0, 1, 2, 3, 4, 5, 6, 7, 8, 9, 10, 11, 12, 13, 14] (by decide) rfl rfl
  obtain ⟨b29, e29, h⟩ := bnd h
  have hr71 : ∀ (H : Heap) (locs : List Loc) (ls : Array Slot), va_P (dC, dI) vwCl (wMod a0 cy m0) H → va_D A (wMod a0 cy m0) → va_S A s.heap H locs → lv_has ls 7 [(0, .ref (a0 0)), (1, .int p1), (2, .int p2), (3, .int p3), (4, .int p4), (5, .int p5)] → W p l e rm_X9_isMet s mm args below meth cd H locs 0 0 Q (F0 mm 71 ls [.int b29]) := by
    intro H locs ls hP hD hS hl
    refine lv_istore (lv' := [(6, .int b29), (0, .ref (a0 0)), (1, .int p1), (2, .int p2), (3, .int p3), (4, .int p4), (5, .int p5)]) hx hb dX9_isMet_71 hl (by decide) rfl (fun ls hl => ?_)
    refine lv_iload hx hb dX9_isMet_73 (lv_at hl 0 rfl) ?_
    refine lv_if_ne (tgt := 140) hx hb dX9_isMet_75 (by decide) (fun c75 => ?_) (fun c75 => ?_)
    · replace h := if_f h c75
      refine lv_iconst (v := 1) hx hb dX9_isMet_140 (by decide) ?_
      refine lv_goto (tgt := 145) hx hb dX9_isMet_141 (by decide) ?_
      obtain rfl := Option.some.inj h
      exact hE H locs 145 ls _ hP hD hS rfl (Or.inr rfl) dX9_isMet_145
    replace h := if_t h c75
    refine lv_iload_n hx hb dX9_isMet_78 rfl (lv_at hl 3 rfl) ?_
    refine lv_iload_n hx hb dX9_isMet_79 rfl (lv_at hl 4 rfl) ?_
    refine lv_iload hx hb dX9_isMet_80 (lv_at hl 5 rfl) ?_
    refine lv_iload hx hb dX9_isMet_82 (lv_at hl 6 rfl) ?_
    refine lv_aload_n hx hb dX9_isMet_84 rfl (lv_at hl 1 rfl) ?_
    refine va_get (D := (dC, dI)) (ci := 4) (v := .ref (a0 10)) (C := RX9) (T := TX9) (N := 18) hx hb htg inX9 hown hK hP 0 rfl rfl 13 (by decide) (htg _ gw863) (fun _ h9 => h9) rfl dX9_isMet_85 ?_
    refine lv_iload_n hx hb dX9_isMet_88 rfl (lv_at hl 2 rfl) ?_
    obtain ⟨v89, e89, h⟩ := bnd h
    refine x_iald (v := v89) hx hb hK hP 10 0 rfl rfl e89 dX9_isMet_89 ?_
    refine lv_aload_n hx hb dX9_isMet_90 rfl (lv_at hl 1 rfl) ?_
    refine va_get (D := (dC, dI)) (ci := 4) (v := .ref (a0 11)) (C := RX9) (T := TX9) (N := 18) hx hb htg inX9 hown hK hP 0 rfl rfl 14 (by decide) (htg _ gw864) (fun _ h9 => h9) rfl dX9_isMet_91 ?_
    refine lv_iload_n hx hb dX9_isMet_94 rfl (lv_at hl 2 rfl) ?_
    obtain ⟨v95, e95, h⟩ := bnd h
    refine x_iald (v := v95) hx hb hK hP 11 0 rfl rfl e95 dX9_isMet_95 ?_
    obtain ⟨v96, e96, h⟩ := bnd h
    refine cS (av := [.int p2, .int p3, .int p4, .int p5, .int v89, .int v95]) (rest := []) (st1 := [.int v96]) (k1 := 0) (k2 := 0) hx hb hml hown htg hN hK (c_X9_isOn l dC dI cy   p2 p3 p4 p5 v89 v95 v96 e96) (g_S gw981 gw982 gw63 gw983) hdS_X9_isOn rfl ⟨⟨Nat.le_of_ble_eq_true rfl, Nat.le_of_ble_eq_true rfl⟩, Nat.le_of_ble_eq_true rfl, Nat.le_of_ble_eq_true rfl⟩ hP hD hS hA [] [0, 1, 2, 3, 4, 5, 6, 7, 8, 9, 10, 11, 12, 13, 14] rfl rfl rfl (by decide) (by decide) hl.1 rfl (Nat.le_of_ble_eq_true rfl) rfl rfl rfl dX9_isMet_96 (fun H locs hP hD hS => ?_)
    obtain ⟨hP, hD⟩ := x_perm (ws' := wMod a0 cy m0) hP hD [0, 1, 2, 3, 4, 5, 6, 7, 8, 9, 10, 11, 12, 13, 14] (by decide) rfl rfl
    refine lv_if_ne (tgt := 140) hx hb dX9_isMet_99 (by decide) (fun c99 => ?_) (fun c99 => ?_)
    · replace h := if_f h c99
      refine lv_iconst (v := 1) hx hb dX9_isMet_140 (by decide) ?_
      refine lv_goto (tgt := 145) hx hb dX9_isMet_141 (by decide) ?_
      obtain rfl := Option.some.inj h
      exact hE H locs 145 ls _ hP hD hS rfl (Or.inr rfl) dX9_isMet_145
    replace h := if_t h c99
    refine lv_iload_n hx hb dX9_isMet_102 rfl (lv_at hl 3 rfl) ?_
    refine lv_iload_n hx hb dX9_isMet_103 rfl (lv_at hl 4 rfl) ?_
    refine lv_iload hx hb dX9_isMet_104 (lv_at hl 5 rfl) ?_
    refine lv_iload hx hb dX9_isMet_106 (lv_at hl 6 rfl) ?_
    refine lv_aload_n hx hb dX9_isMet_108 rfl (lv_at hl 1 rfl) ?_
    refine va_get (D := (dC, dI)) (ci := 4) (v := .ref (a0 12)) (C := RX9) (T := TX9) (N := 18) hx hb htg inX9 hown hK hP 0 rfl rfl 15 (by decide) (htg _ gw865) (fun _ h9 => h9) rfl dX9_isMet_109 ?_
    refine lv_iload_n hx hb dX9_isMet_112 rfl (lv_at hl 2 rfl) ?_
    obtain ⟨v113, e113, h⟩ := bnd h
    refine x_iald (v := v113) hx hb hK hP 12 0 rfl rfl e113 dX9_isMet_113 ?_
    refine lv_aload_n hx hb dX9_isMet_114 rfl (lv_at hl 1 rfl) ?_
    refine va_get (D := (dC, dI)) (ci := 4) (v := .ref (a0 13)) (C := RX9) (T := TX9) (N := 18) hx hb htg inX9 hown hK hP 0 rfl rfl 16 (by decide) (htg _ gw866) (fun _ h9 => h9) rfl dX9_isMet_115 ?_
    refine lv_iload_n hx hb dX9_isMet_118 rfl (lv_at hl 2 rfl) ?_
    obtain ⟨v119, e119, h⟩ := bnd h
    refine x_iald (v := v119) hx hb hK hP 13 0 rfl rfl e119 dX9_isMet_119 ?_
    obtain ⟨v120, e120, h⟩ := bnd h
    refine cS (av := [.int p2, .int p3, .int p4, .int p5, .int v113, .int v119]) (rest := []) (st1 := [.int v120]) (k1 := 0) (k2 := 0) hx hb hml hown htg hN hK (c_X9_isOn l dC dI cy   p2 p3 p4 p5 v113 v119 v120 e120) (g_S gw981 gw982 gw63 gw983) hdS_X9_isOn rfl ⟨⟨Nat.le_of_ble_eq_true rfl, Nat.le_of_ble_eq_true rfl⟩, Nat.le_of_ble_eq_true rfl, Nat.le_of_ble_eq_true rfl⟩ hP hD hS hA [] [0, 1, 2, 3, 4, 5, 6, 7, 8, 9, 10, 11, 12, 13, 14] rfl rfl rfl (by decide) (by decide) hl.1 rfl (Nat.le_of_ble_eq_true rfl) rfl rfl rfl dX9_isMet_120 (fun H locs hP hD hS => ?_)
    obtain ⟨hP, hD⟩ := x_perm (ws' := wMod a0 cy m0) hP hD [0, 1, 2, 3, 4, 5, 6, 7, 8, 9, 10, 11, 12, 13, 14] (by decide) rfl rfl
    refine lv_if_ne (tgt := 140) hx hb dX9_isMet_123 (by decide) (fun c123 => ?_) (fun c123 => ?_)
    · replace h := if_f h c123
      refine lv_iconst (v := 1) hx hb dX9_isMet_140 (by decide) ?_
      refine lv_goto (tgt := 145) hx hb dX9_isMet_141 (by decide) ?_
      obtain rfl := Option.some.inj h
      exact hE H locs 145 ls _ hP hD hS rfl (Or.inr rfl) dX9_isMet_145
    replace h := if_t h c123
    refine lv_aload_n hx hb dX9_isMet_126 rfl (lv_at hl 1 rfl) ?_
    refine lv_iload_n hx hb dX9_isMet_127 rfl (lv_at hl 2 rfl) ?_
    refine lv_iload_n hx hb dX9_isMet_128 rfl (lv_at hl 3 rfl) ?_
    refine lv_iload_n hx hb dX9_isMet_129 rfl (lv_at hl 4 rfl) ?_
    refine lv_iload hx hb dX9_isMet_130 (lv_at hl 5 rfl) ?_
    refine lv_iload hx hb dX9_isMet_132 (lv_at hl 6 rfl) ?_
    obtain ⟨v134, e134, h⟩ := bnd h
    refine cV (av := [.int p1, .int p2, .int p3, .int p4, .int p5]) (rest := []) (st1 := [.int v134]) (k1 := 0) (k2 := 0) (ci := 4) (q0 := 0) hx hb hml hown htg hN hK (c_X9_isCrossed l dC dI cy a0 m0 p1 p2 p3 p4 p5 v134 e134) (g_V gw959 gw961 gw16 gw63 gw962) hdV_X9_isCrossed rfl ⟨⟨Nat.le_of_ble_eq_true rfl, Nat.le_of_ble_eq_true rfl⟩, Nat.le_of_ble_eq_true rfl, Nat.le_of_ble_eq_true rfl⟩ hP hD hS hA ⟨rfl, rfl⟩ rfl [0, 1, 2, 3, 4, 5, 6, 7, 8, 9, 10, 11, 12, 13, 14] [] rfl rfl rfl (by decide) (by decide) hl.1 rfl (Nat.le_of_ble_eq_true rfl) rfl rfl rfl dX9_isMet_134 (fun H locs hP hD hS => ?_)
    have hP : va_P (dC, dI) vwCl (wMod a0 cy m0) H := hP
    have hD : va_D A (wMod a0 cy m0) := hD
    refine lv_if_eq (tgt := 144) hx hb dX9_isMet_137 (by decide) (fun c137 => ?_) (fun c137 => ?_)
    · replace h := if_t h c137
      refine lv_iconst (v := 0) hx hb dX9_isMet_144 (by decide) ?_
      obtain rfl := Option.some.inj h
      exact hE H locs 145 ls _ hP hD hS rfl (Or.inl rfl) dX9_isMet_145
    replace h := if_f h c137
    refine lv_iconst (v := 1) hx hb dX9_isMet_140 (by decide) ?_
    refine lv_goto (tgt := 145) hx hb dX9_isMet_141 (by decide) ?_
    obtain rfl := Option.some.inj h
    exact hE H locs 145 ls _ hP hD hS rfl (Or.inr rfl) dX9_isMet_145
  have h := e29
  clear e29
  refine lv_if_ne (tgt := 66) hx hb dX9_isMet_29 (by decide) (fun c29 => ?_) (fun c29 => ?_)
  · replace h := if_f h c29
    refine lv_iconst (v := 1) hx hb dX9_isMet_66 (by decide) ?_
    refine lv_goto (tgt := 71) hx hb dX9_isMet_67 (by decide) ?_
    obtain rfl := Option.some.inj h
    exact hr71 H locs ls hP hD hS hl
  replace h := if_t h c29
  refine lv_aload_n hx hb dX9_isMet_32 rfl (lv_at hl 0 rfl) ?_
  refine va_get (D := (dC, dI)) (ci := 4) (v := .ref (a0 10)) (C := RX9) (T := TX9) (N := 18) hx hb htg inX9 hown hK hP 0 rfl rfl 13 (by decide) (htg _ gw863) (fun _ h9 => h9) rfl dX9_isMet_33 ?_
  refine lv_iload_n hx hb dX9_isMet_36 rfl (lv_at hl 1 rfl) ?_
  obtain ⟨v37, e37, h⟩ := bnd h
  refine x_iald (v := v37) hx hb hK hP 10 0 rfl rfl e37 dX9_isMet_37 ?_
  refine lv_aload_n hx hb dX9_isMet_38 rfl (lv_at hl 0 rfl) ?_
  refine va_get (D := (dC, dI)) (ci := 4) (v := .ref (a0 11)) (C := RX9) (T := TX9) (N := 18) hx hb htg inX9 hown hK hP 0 rfl rfl 14 (by decide) (htg _ gw864) (fun _ h9 => h9) rfl dX9_isMet_39 ?_
  refine lv_iload_n hx hb dX9_isMet_42 rfl (lv_at hl 1 rfl) ?_
  obtain ⟨v43, e43, h⟩ := bnd h
  refine x_iald (v := v43) hx hb hK hP 11 0 rfl rfl e43 dX9_isMet_43 ?_
  refine lv_aload_n hx hb dX9_isMet_44 rfl (lv_at hl 0 rfl) ?_
  refine va_get (D := (dC, dI)) (ci := 4) (v := .ref (a0 12)) (C := RX9) (T := TX9) (N := 18) hx hb htg inX9 hown hK hP 0 rfl rfl 15 (by decide) (htg _ gw865) (fun _ h9 => h9) rfl dX9_isMet_45 ?_
  refine lv_iload_n hx hb dX9_isMet_48 rfl (lv_at hl 1 rfl) ?_
  obtain ⟨v49, e49, h⟩ := bnd h
  refine x_iald (v := v49) hx hb hK hP 12 0 rfl rfl e49 dX9_isMet_49 ?_
  refine lv_aload_n hx hb dX9_isMet_50 rfl (lv_at hl 0 rfl) ?_
  refine va_get (D := (dC, dI)) (ci := 4) (v := .ref (a0 13)) (C := RX9) (T := TX9) (N := 18) hx hb htg inX9 hown hK hP 0 rfl rfl 16 (by decide) (htg _ gw866) (fun _ h9 => h9) rfl dX9_isMet_51 ?_
  refine lv_iload_n hx hb dX9_isMet_54 rfl (lv_at hl 1 rfl) ?_
  obtain ⟨v55, e55, h⟩ := bnd h
  refine x_iald (v := v55) hx hb hK hP 13 0 rfl rfl e55 dX9_isMet_55 ?_
  refine lv_iload hx hb dX9_isMet_56 (lv_at hl 4 rfl) ?_
  refine lv_iload hx hb dX9_isMet_58 (lv_at hl 5 rfl) ?_
  obtain ⟨v60, e60, h⟩ := bnd h
  refine cS (av := [.int v37, .int v43, .int v49, .int v55, .int p4, .int p5]) (rest := []) (st1 := [.int v60]) (k1 := 0) (k2 := 0) hx hb hml hown htg hN hK (c_X9_isOn l dC dI cy   v37 v43 v49 v55 p4 p5 v60 e60) (g_S gw981 gw982 gw63 gw983) hdS_X9_isOn rfl ⟨⟨Nat.le_of_ble_eq_true rfl, Nat.le_of_ble_eq_true rfl⟩, Nat.le_of_ble_eq_true rfl, Nat.le_of_ble_eq_true rfl⟩ hP hD hS hA [] [0, 1, 2, 3, 4, 5, 6, 7, 8, 9, 10, 11, 12, 13, 14] rfl rfl rfl (by decide) (by decide) hl.1 rfl (Nat.le_of_ble_eq_true rfl) rfl rfl rfl dX9_isMet_60 (fun H locs hP hD hS => ?_)
  obtain ⟨hP, hD⟩ := x_perm (ws' := wMod a0 cy m0) hP hD [0, 1, 2, 3, 4, 5, 6, 7, 8, 9, 10, 11, 12, 13, 14] (by decide) rfl rfl
  refine lv_if_eq (tgt := 70) hx hb dX9_isMet_63 (by decide) (fun c63 => ?_) (fun c63 => ?_)
  · replace h := if_t h c63
    refine lv_iconst (v := 0) hx hb dX9_isMet_70 (by decide) ?_
    obtain rfl := Option.some.inj h
    exact hr71 H locs ls hP hD hS hl
  replace h := if_f h c63
  refine lv_iconst (v := 1) hx hb dX9_isMet_66 (by decide) ?_
  refine lv_goto (tgt := 71) hx hb dX9_isMet_67 (by decide) ?_
  obtain rfl := Option.some.inj h
  exact hr71 H locs ls hP hD hS hl
