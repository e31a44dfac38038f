def figA0 : Fig := (G_X1_openRing fig0 ).getD fig0
theorem figA0_ok : G_X1_openRing fig0  = some figA0 := by rfl
def figA2 : Fig := (G_X1_addCorner figA0 0 0).getD figA0
theorem figA2_ok : G_X1_addCorner figA0 0 0 = some figA2 := by rfl
def figA4 : Fig := (G_X1_addCorner figA2 4 0).getD figA2
theorem figA4_ok : G_X1_addCorner figA2 4 0 = some figA4 := by rfl
def figA6 : Fig := (G_X1_addCorner figA4 4 4).getD figA4
theorem figA6_ok : G_X1_addCorner figA4 4 4 = some figA6 := by rfl
def figA8 : Fig := (G_X1_addCorner figA6 0 4).getD figA6
theorem figA8_ok : G_X1_addCorner figA6 0 4 = some figA8 := by rfl
def SPw (x : Nat → Nat) (cy : Nat → ClassId) (f : Fig) : va_W := wSPo x ++ wFig (fun j => x (1 + j)) cy f ++ wFig (fun j => x (6 + j)) cy fig0 ++ wP2 (fun j => x (11 + j)) cy past0 ++ wSlots (fun j => x (83 + j)) cy (fun _ => fig0) ++ wBA (x 94) cy (fun _ => 0) ++ wText (fun j => x (95 + j)) cy text0 ++ wIA (x 97) cy 100 (fun _ => 0) ++ wPF (fun j => x (11 + j)) cy (fun _ => fig0)
abbrev rm_X8_init : Room := { frames := 4, cells := 97, slots := 2553, locals := 93 }
/-! permutations by counting -/
theorem perm_sum {l1 l2 : va_W} (h : ∀ f : va_W → Nat, (∀ a b : va_W, f (a ++ b) = f a + f b) → f l1 = f l2) : l1.Perm l2 := by
  letI : DecidableEq (Nat × va_E) := fun a b => Classical.propDecidable (a = b)
  exact List.perm_iff_count.mpr (fun x => h (fun l => List.count x l) (fun a b => List.count_append))
theorem va_cons1 (x : Nat × va_E) (w : va_W) : x :: w = [x] ++ w := rfl
theorem va_P.arr {D : va_G} {cl : List vw_C} {w : va_W} {H : Heap} {q n : Nat} {cA : ClassId} {f g : Nat → Option Nat} (hfg : ∀ j, j < n → f j = g j) (h : va_P D cl ((q, .inl (cA, n, .inr (.inr (.inr (.inr f))))) :: w) H) : va_P D cl ((q, .inl (cA, n, .inr (.inr (.inr (.inr g))))) :: w) H := by
  intro k z hk
  rcases k with _ | k
  · obtain rfl := Option.some.inj hk
    have h1 := h 0 _ rfl
    exact Eq.trans (b := some (vp_cell cA (n, .inr (.inr (.inr (.inr f)))))) h1 (congrArg some (arr_ext hfg))
  · exact h (k + 1) z hk
theorem va_D.arr {A : Nat → Prop} {w : va_W} {q : Nat} {x y : va_E} (h : va_D A ((q, x) :: w)) : va_D A ((q, y) :: w) := by
  rw [va_D.nodup] at h ⊢
  refine ⟨h.1, fun z hz => ?_⟩
  rcases List.mem_cons.mp hz with rfl | hz
  · exact h.2 (q, x) List.mem_cons_self
  · exact h.2 z (List.mem_cons_of_mem _ hz)
theorem wFig_congr {a b : Nat → Nat} {cy : Nat → ClassId} {f : Fig} (h : ∀ j, j < 5 → a j = b j) : wFig a cy f = wFig b cy f := by
  unfold wFig
  rw [h 0 (by omega), h 1 (by omega), h 2 (by omega), h 3 (by omega), h 4 (by omega)]
theorem wText_congr {a b : Nat → Nat} {cy : Nat → ClassId} {f : TextS} (h : ∀ j, j < 2 → a j = b j) : wText a cy f = wText b cy f := by
  unfold wText
  rw [h 0 (by omega), h 1 (by omega)]
theorem wPF_congr {a b : Nat → Nat} {cy : Nat → ClassId} {f : Nat → Fig} (h : ∀ j, j < 72 → a j = b j) : wPF a cy f = wPF b cy f := by
  unfold wPF
  rw [List.flatMap_def, List.flatMap_def]
  refine congrArg _ (List.map_congr_left fun i hi => ?_)
  have hi := List.mem_range.mp hi
  exact wFig_congr (fun j hj => h _ (by omega))
set_option maxHeartbeats 4000000 in
set_option maxRecDepth 100000 in
theorem c_X8_init (l : Launch) (dC : Nat → ClassId) (dI : Nat → Nat → Nat) (cy : Nat → ClassId) (h0 : Nat) : CN l (dC, dI) (TY cy) yX8_init cX8_init 2 rm_X8_init [.ref h0] ([(h0, .inr (3, [.null, .null, .null, .null, .null, .null, .null]))]) (fun w => ∃ x : Nat → Nat, x 0 = h0 ∧ w = SPw x cy figA8) := by
  refine CN.mk (own := RX8) ⟨by decide, rfl, rfl⟩ (Nat.le_of_ble_eq_true rfl) ?_
  intro p e s mm args below meth cd A Q hx hb hml hown hin htg hN hO hK hA hP hD hS hE ls hl
  have hl : lv_has ls 2 [(0, .ref h0)] := hl
  obtain ⟨H, hH⟩ : ∃ H, H = s.heap := ⟨_, rfl⟩
  obtain ⟨locs, hlocs⟩ : ∃ locs : List Loc, locs = [] := ⟨_, rfl⟩
  rw [← hlocs] at hS ⊢
  have hS : va_S A s.heap H locs := by rw [hH]; exact hS
  rw [← hH] at hP ⊢
  refine lv_aload_n hx hb dX8_init_0 rfl (lv_at hl 0 rfl) ?_
  refine W.objInit hx hb hown (htg _ gw28) (htg _ gw29) (htg _ gw30) rfl (by rw [hml]; exact hl.1) rfl dX8_init_1 (Nat.le_of_ble_eq_true rfl) (Nat.le_of_ble_eq_true rfl) ?_
  refine W.eq (g2 := F0 mm 4 ls []) rfl ?_
  refine lv_aload_n hx hb dX8_init_4 rfl (lv_at hl 0 rfl) ?_
  refine va_new (ci := 0) (fs := [.int 0, .int 0, .null, .null, .null, .null]) (C := RX1) (T := TX1) (N := 6) hx hb htg inX1 tyX1 tyX1_ok hown (htg _ gw31) (htg _ gw32) (htg _ gw8) hK hP hD hS hA rfl (fun j hj => by rcases (by omega : j = 0 ∨ j = 1 ∨ j = 2 ∨ j = 3 ∨ j = 4 ∨ j = 5) with rfl | rfl | rfl | rfl | rfl | rfl <;> rfl) (Nat.le_of_ble_eq_true rfl) (Nat.le_of_ble_eq_true rfl) dX8_init_5 (fun q5_3 H hP hD hS => ?_)
  refine lv_dup hx hb dX8_init_8 rfl ?_
  refine cNIp (rest := [.ref q5_3, .ref h0]) (k1 := 5) (k2 := 130) hx hb hml hown htg hN hO hK (c_X1_init l dC dI cy q5_3) gw33 gw34 gw8 gw35 rfl hdS_X1_init ⟨⟨Nat.le_of_ble_eq_true rfl, Nat.le_of_ble_eq_true rfl⟩, Nat.le_of_ble_eq_true rfl, Nat.le_of_ble_eq_true rfl⟩ hP hD hS hA List.perm_append_comm hl.1 rfl (Nat.le_of_ble_eq_true rfl) rfl rfl dX8_init_9 (fun H locs w9 hg hP hD hS => ?_)
  obtain ⟨a9_5, rfl, rfl⟩ := hg
  have hP : va_P (dC, dI) vwCl ((h0, .inr (3, [.null, .null, .null, .null, .null, .null, .null])) :: wFig a9_5 cy fig0) H := hP
  have hD : va_D A ((h0, .inr (3, [.null, .null, .null, .null, .null, .null, .null])) :: wFig a9_5 cy fig0) := hD
  obtain ⟨w1, hw1⟩ : ∃ w : va_W, w = wFig a9_5 cy fig0 := ⟨_, rfl⟩
  rw [← hw1] at hP hD
  refine va_putF (D := (dC, dI)) (ci := 3) (v := .ref (a9_5 0)) (ty := .object "SquaredPaper$Figure") (C := RX8) (T := TX8) (N := 7) hx hb htg inX8 tyX8 tyX8_ok nmX8 hown hK hP hD hS 0 rfl rfl 0 (by decide) (htg _ gw133) (fun _ h9 => h9) rfl hin rfl (by decide +kernel) rfl rfl (Nat.le_of_ble_eq_true rfl) dX8_init_12 (fun H locs hP hD hS => ?_)
  have hP : va_P (dC, dI) vwCl ((h0, .inr (3, [.ref (a9_5 0), .null, .null, .null, .null, .null, .null])) :: w1) H := hP
  have hD : va_D A ((h0, .inr (3, [.ref (a9_5 0), .null, .null, .null, .null, .null, .null])) :: w1) := hD
  refine lv_aload_n hx hb dX8_init_15 rfl (lv_at hl 0 rfl) ?_
  refine va_new (ci := 0) (fs := [.int 0, .int 0, .null, .null, .null, .null]) (C := RX1) (T := TX1) (N := 6) hx hb htg inX1 tyX1 tyX1_ok hown (htg _ gw31) (htg _ gw32) (htg _ gw8) hK hP hD hS hA rfl (fun j hj => by rcases (by omega : j = 0 ∨ j = 1 ∨ j = 2 ∨ j = 3 ∨ j = 4 ∨ j = 5) with rfl | rfl | rfl | rfl | rfl | rfl <;> rfl) (Nat.le_of_ble_eq_true rfl) (Nat.le_of_ble_eq_true rfl) dX8_init_16 (fun q16_8 H hP hD hS => ?_)
  refine lv_dup hx hb dX8_init_19 rfl ?_
  refine cNIp (rest := [.ref q16_8, .ref h0]) (k1 := 10) (k2 := 260) hx hb hml hown htg hN hO hK (c_X1_init l dC dI cy q16_8) gw33 gw34 gw8 gw35 rfl hdS_X1_init ⟨⟨Nat.le_of_ble_eq_true rfl, Nat.le_of_ble_eq_true rfl⟩, Nat.le_of_ble_eq_true rfl, Nat.le_of_ble_eq_true rfl⟩ hP hD hS hA List.perm_append_comm hl.1 rfl (Nat.le_of_ble_eq_true rfl) rfl rfl dX8_init_20 (fun H locs w9 hg hP hD hS => ?_)
  obtain ⟨a20_10, rfl, rfl⟩ := hg
  have hP : va_P (dC, dI) vwCl ((h0, .inr (3, [.ref (a9_5 0), .null, .null, .null, .null, .null, .null])) :: (w1 ++ wFig a20_10 cy fig0)) H := hP
  have hD : va_D A ((h0, .inr (3, [.ref (a9_5 0), .null, .null, .null, .null, .null, .null])) :: (w1 ++ wFig a20_10 cy fig0)) := hD
  obtain ⟨w2, hw2⟩ : ∃ w : va_W, w = w1 ++ wFig a20_10 cy fig0 := ⟨_, rfl⟩
  rw [← hw2] at hP hD
  refine va_putF (D := (dC, dI)) (ci := 3) (v := .ref (a20_10 0)) (ty := .object "SquaredPaper$Figure") (C := RX8) (T := TX8) (N := 7) hx hb htg inX8 tyX8 tyX8_ok nmX8 hown hK hP hD hS 0 rfl rfl 1 (by decide) (htg _ gw134) (fun _ h9 => h9) rfl hin rfl (by decide +kernel) rfl rfl (Nat.le_of_ble_eq_true rfl) dX8_init_23 (fun H locs hP hD hS => ?_)
  have hP : va_P (dC, dI) vwCl ((h0, .inr (3, [.ref (a9_5 0), .ref (a20_10 0), .null, .null, .null, .null, .null])) :: w2) H := hP
  have hD : va_D A ((h0, .inr (3, [.ref (a9_5 0), .ref (a20_10 0), .null, .null, .null, .null, .null])) :: w2) := hD
  refine lv_aload_n hx hb dX8_init_26 rfl (lv_at hl 0 rfl) ?_
  refine va_new (ci := 1) (fs := [.null, .int 0, .int 0]) (C := RX3) (T := TX3) (N := 3) hx hb htg inX3 tyX3 tyX3_ok hown (htg _ gw64) (htg _ gw65) (htg _ gw9) hK hP hD hS hA rfl (fun j hj => by rcases (by omega : j = 0 ∨ j = 1 ∨ j = 2) with rfl | rfl | rfl <;> rfl) (Nat.le_of_ble_eq_true rfl) (Nat.le_of_ble_eq_true rfl) dX8_init_27 (fun q27_13 H hP hD hS => ?_)
  refine lv_dup hx hb dX8_init_30 rfl ?_
  refine cNIp (rest := [.ref q27_13, .ref h0]) (k1 := 82) (k2 := 2097) hx hb hml hown htg hN hO hK (c_X3_init l dC dI cy q27_13) gw66 gw67 gw9 gw68 rfl hdS_X3_init ⟨⟨Nat.le_of_ble_eq_true rfl, Nat.le_of_ble_eq_true rfl⟩, Nat.le_of_ble_eq_true rfl, Nat.le_of_ble_eq_true rfl⟩ hP hD hS hA List.perm_append_comm hl.1 rfl (Nat.le_of_ble_eq_true rfl) rfl rfl dX8_init_31 (fun H locs w9 hg hP hD hS => ?_)
  obtain ⟨a31_15, rfl, rfl⟩ := hg
  have hP : va_P (dC, dI) vwCl ((h0, .inr (3, [.ref (a9_5 0), .ref (a20_10 0), .null, .null, .null, .null, .null])) :: (w2 ++ (([(a31_15 0, .inr (1, [.ref (a31_15 1), .int (p_oldest past0), .int (p_count past0)]))] ++ [(a31_15 1, .inl (cy 3, 14, .inr (.inr (.inr (.inr (fun j => some (a31_15 (2 + 5 * j))))))))]) ++ wPF a31_15 cy (fun _ => fig0)))) H := hP
  have hD : va_D A ((h0, .inr (3, [.ref (a9_5 0), .ref (a20_10 0), .null, .null, .null, .null, .null])) :: (w2 ++ (([(a31_15 0, .inr (1, [.ref (a31_15 1), .int (p_oldest past0), .int (p_count past0)]))] ++ [(a31_15 1, .inl (cy 3, 14, .inr (.inr (.inr (.inr (fun j => some (a31_15 (2 + 5 * j))))))))]) ++ wPF a31_15 cy (fun _ => fig0)))) := hD
  obtain ⟨w3, hw3⟩ : ∃ w : va_W, w = w2 ++ (([(a31_15 0, .inr (1, [.ref (a31_15 1), .int (p_oldest past0), .int (p_count past0)]))] ++ [(a31_15 1, .inl (cy 3, 14, .inr (.inr (.inr (.inr (fun j => some (a31_15 (2 + 5 * j))))))))]) ++ wPF a31_15 cy (fun _ => fig0)) := ⟨_, rfl⟩
  rw [← hw3] at hP hD
  refine va_putF (D := (dC, dI)) (ci := 3) (v := .ref (a31_15 0)) (ty := .object "SquaredPaper$Past") (C := RX8) (T := TX8) (N := 7) hx hb htg inX8 tyX8 tyX8_ok nmX8 hown hK hP hD hS 0 rfl rfl 2 (by decide) (htg _ gw135) (fun _ h9 => h9) rfl hin rfl (by decide +kernel) rfl rfl (Nat.le_of_ble_eq_true rfl) dX8_init_34 (fun H locs hP hD hS => ?_)
  have hP : va_P (dC, dI) vwCl ((h0, .inr (3, [.ref (a9_5 0), .ref (a20_10 0), .ref (a31_15 0), .null, .null, .null, .null])) :: w3) H := hP
  have hD : va_D A ((h0, .inr (3, [.ref (a9_5 0), .ref (a20_10 0), .ref (a31_15 0), .null, .null, .null, .null])) :: w3) := hD
  refine lv_aload_n hx hb dX8_init_37 rfl (lv_at hl 0 rfl) ?_
  refine lv_iconst (v := 2) hx hb dX8_init_38 (by decide) ?_
  refine x_newq (own := RX8) hx hb hown gw31 htg hO hK 3 rfl hP hD hS hA 2 (k1 := 83) (k2 := 2099) (by decide) (by decide) (by decide) rfl rfl (by decide) (by decide) dX8_init_39 (fun q39 H hP hD hS => ?_)
  have hP : va_P (dC, dI) vwCl ((h0, .inr (3, [.ref (a9_5 0), .ref (a20_10 0), .ref (a31_15 0), .null, .null, .null, .null])) :: (w3 ++ [(q39, .inl (cy 3, 2, .inr (.inr (.inr (.inr (fun _ => none))))))])) H := hP
  have hD : va_D A ((h0, .inr (3, [.ref (a9_5 0), .ref (a20_10 0), .ref (a31_15 0), .null, .null, .null, .null])) :: (w3 ++ [(q39, .inl (cy 3, 2, .inr (.inr (.inr (.inr (fun _ => none))))))])) := hD
  have hP := hP.perm (List.Perm.cons _ List.perm_append_comm)
  have hD := hD.perm (List.Perm.cons _ List.perm_append_comm)
  have hP : va_P (dC, dI) vwCl ((h0, .inr (3, [.ref (a9_5 0), .ref (a20_10 0), .ref (a31_15 0), .null, .null, .null, .null])) :: (q39, .inl (cy 3, 2, .inr (.inr (.inr (.inr (fun _ => none)))))) :: w3) H := hP
  have hD : va_D A ((h0, .inr (3, [.ref (a9_5 0), .ref (a20_10 0), .ref (a31_15 0), .null, .null, .null, .null])) :: (q39, .inl (cy 3, 2, .inr (.inr (.inr (.inr (fun _ => none)))))) :: w3) := hD
  refine va_putF (D := (dC, dI)) (ci := 3) (v := .ref q39) (ty := .array (.object "SquaredPaper$Figure")) (C := RX8) (T := TX8) (N := 7) hx hb htg inX8 tyX8 tyX8_ok nmX8 hown hK hP hD hS 0 rfl rfl 3 (by decide) (htg _ gw136) (fun _ h9 => h9) rfl hin rfl (by decide +kernel) rfl rfl (Nat.le_of_ble_eq_true rfl) dX8_init_42 (fun H locs hP hD hS => ?_)
  have hP : va_P (dC, dI) vwCl ((h0, .inr (3, [.ref (a9_5 0), .ref (a20_10 0), .ref (a31_15 0), .ref q39, .null, .null, .null])) :: (q39, .inl (cy 3, 2, .inr (.inr (.inr (.inr (fun _ => none)))))) :: w3) H := hP
  have hD : va_D A ((h0, .inr (3, [.ref (a9_5 0), .ref (a20_10 0), .ref (a31_15 0), .ref q39, .null, .null, .null])) :: (q39, .inl (cy 3, 2, .inr (.inr (.inr (.inr (fun _ => none)))))) :: w3) := hD
  refine lv_iconst (v := 0) hx hb dX8_init_45 (by decide) ?_
  refine lv_istore_n (lv' := [(1, .int (nI 0)), (0, .ref h0)]) hx hb dX8_init_46 rfl hl (by decide) rfl (fun ls hl => ?_)
  refine lv_iload_n hx hb dX8_init_47 rfl (lv_at hl 0 rfl) ?_
  refine lv_iconst (v := 2) hx hb dX8_init_48 (by decide) ?_
  refine lv_icmp_ge (tgt := 71) hx hb dX8_init_49 (by decide) (fun c => absurd c (by decide)) (fun c => ?_)
  refine lv_aload_n hx hb dX8_init_52 rfl (lv_at hl 1 rfl) ?_
  refine va_get (D := (dC, dI)) (ci := 3) (v := .ref q39) (C := RX8) (T := TX8) (N := 7) hx hb htg inX8 hown hK hP 0 rfl rfl 3 (by decide) (htg _ gw136) (fun _ h9 => h9) rfl dX8_init_53 ?_
  refine lv_iload_n hx hb dX8_init_56 rfl (lv_at hl 0 rfl) ?_
  refine va_new (ci := 0) (fs := [.int 0, .int 0, .null, .null, .null, .null]) (C := RX1) (T := TX1) (N := 6) hx hb htg inX1 tyX1 tyX1_ok hown (htg _ gw31) (htg _ gw32) (htg _ gw8) hK hP hD hS hA rfl (fun j hj => by rcases (by omega : j = 0 ∨ j = 1 ∨ j = 2 ∨ j = 3 ∨ j = 4 ∨ j = 5) with rfl | rfl | rfl | rfl | rfl | rfl <;> rfl) (Nat.le_of_ble_eq_true rfl) (Nat.le_of_ble_eq_true rfl) dX8_init_57 (fun q57_29 H hP hD hS => ?_)
  refine lv_dup hx hb dX8_init_60 rfl ?_
  refine cNIp (rest := [.ref q57_29, .int (nI 0), .ref q39]) (k1 := 88) (k2 := 2229) hx hb hml hown htg hN hO hK (c_X1_init l dC dI cy q57_29) gw33 gw34 gw8 gw35 rfl hdS_X1_init ⟨⟨Nat.le_of_ble_eq_true rfl, Nat.le_of_ble_eq_true rfl⟩, Nat.le_of_ble_eq_true rfl, Nat.le_of_ble_eq_true rfl⟩ hP hD hS hA List.perm_append_comm hl.1 rfl (Nat.le_of_ble_eq_true rfl) rfl rfl dX8_init_61 (fun H locs w9 hg hP hD hS => ?_)
  obtain ⟨a61_31, rfl, rfl⟩ := hg
  have hP : va_P (dC, dI) vwCl ((h0, .inr (3, [.ref (a9_5 0), .ref (a20_10 0), .ref (a31_15 0), .ref q39, .null, .null, .null])) :: (q39, .inl (cy 3, 2, .inr (.inr (.inr (.inr (fun _ => none)))))) :: (w3 ++ wFig a61_31 cy fig0)) H := hP
  have hD : va_D A ((h0, .inr (3, [.ref (a9_5 0), .ref (a20_10 0), .ref (a31_15 0), .ref q39, .null, .null, .null])) :: (q39, .inl (cy 3, 2, .inr (.inr (.inr (.inr (fun _ => none)))))) :: (w3 ++ wFig a61_31 cy fig0)) := hD
  have hP := hP.perm (List.Perm.cons _ (List.Perm.cons _ List.perm_append_comm))
  have hD := hD.perm (List.Perm.cons _ (List.Perm.cons _ List.perm_append_comm))
  have hP : va_P (dC, dI) vwCl ((h0, .inr (3, [.ref (a9_5 0), .ref (a20_10 0), .ref (a31_15 0), .ref q39, .null, .null, .null])) :: (q39, .inl (cy 3, 2, .inr (.inr (.inr (.inr (fun _ => none)))))) :: (wFig a61_31 cy fig0 ++ w3)) H := hP
  have hD : va_D A ((h0, .inr (3, [.ref (a9_5 0), .ref (a20_10 0), .ref (a31_15 0), .ref q39, .null, .null, .null])) :: (q39, .inl (cy 3, 2, .inr (.inr (.inr (.inr (fun _ => none)))))) :: (wFig a61_31 cy fig0 ++ w3)) := hD
  refine va_astq hx hb hK hP hD hS 1 3 2 0 rfl rfl rfl rfl (vp_in_nI (by decide) (by decide)) dX8_init_64 (fun H locs hP hD hS => ?_)
  have hP : va_P (dC, dI) vwCl ((h0, .inr (3, [.ref (a9_5 0), .ref (a20_10 0), .ref (a31_15 0), .ref q39, .null, .null, .null])) :: (q39, .inl (cy 3, 2, .inr (.inr (.inr (.inr (va_up (fun _ => none) (nI 0).toNatClampNeg (some (a61_31 0)))))))) :: (wFig a61_31 cy fig0 ++ w3)) H := hP
  have hD : va_D A ((h0, .inr (3, [.ref (a9_5 0), .ref (a20_10 0), .ref (a31_15 0), .ref q39, .null, .null, .null])) :: (q39, .inl (cy 3, 2, .inr (.inr (.inr (.inr (va_up (fun _ => none) (nI 0).toNatClampNeg (some (a61_31 0)))))))) :: (wFig a61_31 cy fig0 ++ w3)) := hD
  obtain ⟨w4, hw4⟩ : ∃ w : va_W, w = wFig a61_31 cy fig0 ++ w3 := ⟨_, rfl⟩
  rw [← hw4] at hP hD
  refine lv_iinc (v := nI 1) (lv' := [(1, .int (nI 1)), (0, .ref h0)]) hx hb dX8_init_65 hl (k := 0) rfl (nI_succ 0).symm (by decide) rfl (fun ls hl => ?_)
  refine lv_goto (tgt := 47) hx hb dX8_init_68 (by decide) ?_
  refine lv_iload_n hx hb dX8_init_47 rfl (lv_at hl 0 rfl) ?_
  refine lv_iconst (v := 2) hx hb dX8_init_48 (by decide) ?_
  refine lv_icmp_ge (tgt := 71) hx hb dX8_init_49 (by decide) (fun c => absurd c (by decide)) (fun c => ?_)
  refine lv_aload_n hx hb dX8_init_52 rfl (lv_at hl 1 rfl) ?_
  refine va_get (D := (dC, dI)) (ci := 3) (v := .ref q39) (C := RX8) (T := TX8) (N := 7) hx hb htg inX8 hown hK hP 0 rfl rfl 3 (by decide) (htg _ gw136) (fun _ h9 => h9) rfl dX8_init_53 ?_
  refine lv_iload_n hx hb dX8_init_56 rfl (lv_at hl 0 rfl) ?_
  refine va_new (ci := 0) (fs := [.int 0, .int 0, .null, .null, .null, .null]) (C := RX1) (T := TX1) (N := 6) hx hb htg inX1 tyX1 tyX1_ok hown (htg _ gw31) (htg _ gw32) (htg _ gw8) hK hP hD hS hA rfl (fun j hj => by rcases (by omega : j = 0 ∨ j = 1 ∨ j = 2 ∨ j = 3 ∨ j = 4 ∨ j = 5) with rfl | rfl | rfl | rfl | rfl | rfl <;> rfl) (Nat.le_of_ble_eq_true rfl) (Nat.le_of_ble_eq_true rfl) dX8_init_57 (fun q57_41 H hP hD hS => ?_)
  refine lv_dup hx hb dX8_init_60 rfl ?_
  refine cNIp (rest := [.ref q57_41, .int (nI 1), .ref q39]) (k1 := 93) (k2 := 2359) hx hb hml hown htg hN hO hK (c_X1_init l dC dI cy q57_41) gw33 gw34 gw8 gw35 rfl hdS_X1_init ⟨⟨Nat.le_of_ble_eq_true rfl, Nat.le_of_ble_eq_true rfl⟩, Nat.le_of_ble_eq_true rfl, Nat.le_of_ble_eq_true rfl⟩ hP hD hS hA List.perm_append_comm hl.1 rfl (Nat.le_of_ble_eq_true rfl) rfl rfl dX8_init_61 (fun H locs w9 hg hP hD hS => ?_)
  obtain ⟨a61_43, rfl, rfl⟩ := hg
  have hP : va_P (dC, dI) vwCl ((h0, .inr (3, [.ref (a9_5 0), .ref (a20_10 0), .ref (a31_15 0), .ref q39, .null, .null, .null])) :: (q39, .inl (cy 3, 2, .inr (.inr (.inr (.inr (va_up (fun _ => none) (nI 0).toNatClampNeg (some (a61_31 0)))))))) :: (w4 ++ wFig a61_43 cy fig0)) H := hP
  have hD : va_D A ((h0, .inr (3, [.ref (a9_5 0), .ref (a20_10 0), .ref (a31_15 0), .ref q39, .null, .null, .null])) :: (q39, .inl (cy 3, 2, .inr (.inr (.inr (.inr (va_up (fun _ => none) (nI 0).toNatClampNeg (some (a61_31 0)))))))) :: (w4 ++ wFig a61_43 cy fig0)) := hD
  have hP := hP.perm (List.Perm.cons _ (List.Perm.cons _ List.perm_append_comm))
  have hD := hD.perm (List.Perm.cons _ (List.Perm.cons _ List.perm_append_comm))
  have hP : va_P (dC, dI) vwCl ((h0, .inr (3, [.ref (a9_5 0), .ref (a20_10 0), .ref (a31_15 0), .ref q39, .null, .null, .null])) :: (q39, .inl (cy 3, 2, .inr (.inr (.inr (.inr (va_up (fun _ => none) (nI 0).toNatClampNeg (some (a61_31 0)))))))) :: (wFig a61_43 cy fig0 ++ w4)) H := hP
  have hD : va_D A ((h0, .inr (3, [.ref (a9_5 0), .ref (a20_10 0), .ref (a31_15 0), .ref q39, .null, .null, .null])) :: (q39, .inl (cy 3, 2, .inr (.inr (.inr (.inr (va_up (fun _ => none) (nI 0).toNatClampNeg (some (a61_31 0)))))))) :: (wFig a61_43 cy fig0 ++ w4)) := hD
  refine va_astq hx hb hK hP hD hS 1 3 2 0 rfl rfl rfl rfl (vp_in_nI (by decide) (by decide)) dX8_init_64 (fun H locs hP hD hS => ?_)
  have hP : va_P (dC, dI) vwCl ((h0, .inr (3, [.ref (a9_5 0), .ref (a20_10 0), .ref (a31_15 0), .ref q39, .null, .null, .null])) :: (q39, .inl (cy 3, 2, .inr (.inr (.inr (.inr (va_up (va_up (fun _ => none) (nI 0).toNatClampNeg (some (a61_31 0))) (nI 1).toNatClampNeg (some (a61_43 0)))))))) :: (wFig a61_43 cy fig0 ++ w4)) H := hP
  have hD : va_D A ((h0, .inr (3, [.ref (a9_5 0), .ref (a20_10 0), .ref (a31_15 0), .ref q39, .null, .null, .null])) :: (q39, .inl (cy 3, 2, .inr (.inr (.inr (.inr (va_up (va_up (fun _ => none) (nI 0).toNatClampNeg (some (a61_31 0))) (nI 1).toNatClampNeg (some (a61_43 0)))))))) :: (wFig a61_43 cy fig0 ++ w4)) := hD
  obtain ⟨w5, hw5⟩ : ∃ w : va_W, w = wFig a61_43 cy fig0 ++ w4 := ⟨_, rfl⟩
  rw [← hw5] at hP hD
  refine lv_iinc (v := nI 2) (lv' := [(1, .int (nI 2)), (0, .ref h0)]) hx hb dX8_init_65 hl (k := 0) rfl (nI_succ 1).symm (by decide) rfl (fun ls hl => ?_)
  refine lv_goto (tgt := 47) hx hb dX8_init_68 (by decide) ?_
  refine lv_iload_n hx hb dX8_init_47 rfl (lv_at hl 0 rfl) ?_
  refine lv_iconst (v := 2) hx hb dX8_init_48 (by decide) ?_
  refine lv_icmp_ge (tgt := 71) hx hb dX8_init_49 (by decide) (fun c => ?_) (fun c => absurd (by decide) c)
  refine lv_aload_n hx hb dX8_init_71 rfl (lv_at hl 1 rfl) ?_
  refine lv_iconst (v := 2) hx hb dX8_init_72 (by decide) ?_
  refine x_newa (ty := .boolean) hx hb (htg _ ac_boolean) rfl hK 1 rfl (by simp) hP hD hS hA 2 (k1 := 94) (k2 := 2361) (by decide) (by decide) (by decide) rfl rfl (by decide) (by decide) dX8_init_73 (fun q73 H hP hD hS => ?_)
  have hP : va_P (dC, dI) vwCl ((h0, .inr (3, [.ref (a9_5 0), .ref (a20_10 0), .ref (a31_15 0), .ref q39, .null, .null, .null])) :: (q39, .inl (cy 3, 2, .inr (.inr (.inr (.inr (va_up (va_up (fun _ => none) (nI 0).toNatClampNeg (some (a61_31 0))) (nI 1).toNatClampNeg (some (a61_43 0)))))))) :: (w5 ++ [(q73, .inl (cy 1, 2, .inl (fun _ => 0)))])) H := hP
  have hD : va_D A ((h0, .inr (3, [.ref (a9_5 0), .ref (a20_10 0), .ref (a31_15 0), .ref q39, .null, .null, .null])) :: (q39, .inl (cy 3, 2, .inr (.inr (.inr (.inr (va_up (va_up (fun _ => none) (nI 0).toNatClampNeg (some (a61_31 0))) (nI 1).toNatClampNeg (some (a61_43 0)))))))) :: (w5 ++ [(q73, .inl (cy 1, 2, .inl (fun _ => 0)))])) := hD
  obtain ⟨w6, hw6⟩ : ∃ w : va_W, w = w5 ++ [(q73, .inl (cy 1, 2, .inl (fun _ => 0)))] := ⟨_, rfl⟩
  rw [← hw6] at hP hD
  refine va_putF (D := (dC, dI)) (ci := 3) (v := .ref q73) (ty := .array .boolean) (C := RX8) (T := TX8) (N := 7) hx hb htg inX8 tyX8 tyX8_ok nmX8 hown hK hP hD hS 0 rfl rfl 4 (by decide) (htg _ gw137) (fun _ h9 => h9) rfl hin rfl (by decide +kernel) rfl rfl (Nat.le_of_ble_eq_true rfl) dX8_init_75 (fun H locs hP hD hS => ?_)
  have hP : va_P (dC, dI) vwCl ((h0, .inr (3, [.ref (a9_5 0), .ref (a20_10 0), .ref (a31_15 0), .ref q39, .ref q73, .null, .null])) :: (q39, .inl (cy 3, 2, .inr (.inr (.inr (.inr (va_up (va_up (fun _ => none) (nI 0).toNatClampNeg (some (a61_31 0))) (nI 1).toNatClampNeg (some (a61_43 0)))))))) :: w6) H := hP
  have hD : va_D A ((h0, .inr (3, [.ref (a9_5 0), .ref (a20_10 0), .ref (a31_15 0), .ref q39, .ref q73, .null, .null])) :: (q39, .inl (cy 3, 2, .inr (.inr (.inr (.inr (va_up (va_up (fun _ => none) (nI 0).toNatClampNeg (some (a61_31 0))) (nI 1).toNatClampNeg (some (a61_43 0)))))))) :: w6) := hD
  refine lv_aload_n hx hb dX8_init_78 rfl (lv_at hl 1 rfl) ?_
  refine va_new (ci := 2) (fs := [.null, .int 0]) (C := RX7) (T := TX7) (N := 2) hx hb htg inX7 tyX7 tyX7_ok hown (htg _ gw83) (htg _ gw84) (htg _ gw10) hK hP hD hS hA rfl (fun j hj => by rcases (by omega : j = 0 ∨ j = 1) with rfl | rfl <;> rfl) (Nat.le_of_ble_eq_true rfl) (Nat.le_of_ble_eq_true rfl) dX8_init_79 (fun q79_55 H hP hD hS => ?_)
  refine lv_dup hx hb dX8_init_82 rfl ?_
  refine cNIp (rest := [.ref q79_55, .ref h0]) (k1 := 96) (k2 := 2453) hx hb hml hown htg hN hO hK (c_X7_init l dC dI cy q79_55) gw85 gw86 gw10 gw87 rfl hdS_X7_init ⟨⟨Nat.le_of_ble_eq_true rfl, Nat.le_of_ble_eq_true rfl⟩, Nat.le_of_ble_eq_true rfl, Nat.le_of_ble_eq_true rfl⟩ hP hD hS hA List.perm_append_comm hl.1 rfl (Nat.le_of_ble_eq_true rfl) rfl rfl dX8_init_83 (fun H locs w9 hg hP hD hS => ?_)
  obtain ⟨a83_57, rfl, rfl⟩ := hg
  have hP : va_P (dC, dI) vwCl ((h0, .inr (3, [.ref (a9_5 0), .ref (a20_10 0), .ref (a31_15 0), .ref q39, .ref q73, .null, .null])) :: (q39, .inl (cy 3, 2, .inr (.inr (.inr (.inr (va_up (va_up (fun _ => none) (nI 0).toNatClampNeg (some (a61_31 0))) (nI 1).toNatClampNeg (some (a61_43 0)))))))) :: (w6 ++ wText a83_57 cy text0)) H := hP
  have hD : va_D A ((h0, .inr (3, [.ref (a9_5 0), .ref (a20_10 0), .ref (a31_15 0), .ref q39, .ref q73, .null, .null])) :: (q39, .inl (cy 3, 2, .inr (.inr (.inr (.inr (va_up (va_up (fun _ => none) (nI 0).toNatClampNeg (some (a61_31 0))) (nI 1).toNatClampNeg (some (a61_43 0)))))))) :: (w6 ++ wText a83_57 cy text0)) := hD
  obtain ⟨w7, hw7⟩ : ∃ w : va_W, w = w6 ++ wText a83_57 cy text0 := ⟨_, rfl⟩
  rw [← hw7] at hP hD
  refine va_putF (D := (dC, dI)) (ci := 3) (v := .ref (a83_57 0)) (ty := .object "SquaredPaper$Text") (C := RX8) (T := TX8) (N := 7) hx hb htg inX8 tyX8 tyX8_ok nmX8 hown hK hP hD hS 0 rfl rfl 5 (by decide) (htg _ gw138) (fun _ h9 => h9) rfl hin rfl (by decide +kernel) rfl rfl (Nat.le_of_ble_eq_true rfl) dX8_init_86 (fun H locs hP hD hS => ?_)
  have hP : va_P (dC, dI) vwCl ((h0, .inr (3, [.ref (a9_5 0), .ref (a20_10 0), .ref (a31_15 0), .ref q39, .ref q73, .ref (a83_57 0), .null])) :: (q39, .inl (cy 3, 2, .inr (.inr (.inr (.inr (va_up (va_up (fun _ => none) (nI 0).toNatClampNeg (some (a61_31 0))) (nI 1).toNatClampNeg (some (a61_43 0)))))))) :: w7) H := hP
  have hD : va_D A ((h0, .inr (3, [.ref (a9_5 0), .ref (a20_10 0), .ref (a31_15 0), .ref q39, .ref q73, .ref (a83_57 0), .null])) :: (q39, .inl (cy 3, 2, .inr (.inr (.inr (.inr (va_up (va_up (fun _ => none) (nI 0).toNatClampNeg (some (a61_31 0))) (nI 1).toNatClampNeg (some (a61_43 0)))))))) :: w7) := hD
  refine lv_aload_n hx hb dX8_init_89 rfl (lv_at hl 1 rfl) ?_
  refine lv_bipush (v := 100) hx hb dX8_init_90 (by decide) ?_
  refine x_newa (ty := .int) hx hb (htg _ ac_int) rfl hK 0 rfl (by simp) hP hD hS hA 100 (k1 := 97) (k2 := 2553) (by decide) (by decide) (by decide) rfl rfl (by decide) (by decide) dX8_init_92 (fun q92 H hP hD hS => ?_)
  have hP : va_P (dC, dI) vwCl ((h0, .inr (3, [.ref (a9_5 0), .ref (a20_10 0), .ref (a31_15 0), .ref q39, .ref q73, .ref (a83_57 0), .null])) :: (q39, .inl (cy 3, 2, .inr (.inr (.inr (.inr (va_up (va_up (fun _ => none) (nI 0).toNatClampNeg (some (a61_31 0))) (nI 1).toNatClampNeg (some (a61_43 0)))))))) :: (w7 ++ [(q92, .inl (cy 0, 100, .inl (fun _ => 0)))])) H := hP
  have hD : va_D A ((h0, .inr (3, [.ref (a9_5 0), .ref (a20_10 0), .ref (a31_15 0), .ref q39, .ref q73, .ref (a83_57 0), .null])) :: (q39, .inl (cy 3, 2, .inr (.inr (.inr (.inr (va_up (va_up (fun _ => none) (nI 0).toNatClampNeg (some (a61_31 0))) (nI 1).toNatClampNeg (some (a61_43 0)))))))) :: (w7 ++ [(q92, .inl (cy 0, 100, .inl (fun _ => 0)))])) := hD
  obtain ⟨w8, hw8⟩ : ∃ w : va_W, w = w7 ++ [(q92, .inl (cy 0, 100, .inl (fun _ => 0)))] := ⟨_, rfl⟩
  rw [← hw8] at hP hD
  refine va_putF (D := (dC, dI)) (ci := 3) (v := .ref q92) (ty := .array .int) (C := RX8) (T := TX8) (N := 7) hx hb htg inX8 tyX8 tyX8_ok nmX8 hown hK hP hD hS 0 rfl rfl 6 (by decide) (htg _ gw139) (fun _ h9 => h9) rfl hin rfl (by decide +kernel) rfl rfl (Nat.le_of_ble_eq_true rfl) dX8_init_94 (fun H locs hP hD hS => ?_)
  have hP : va_P (dC, dI) vwCl ((h0, .inr (3, [.ref (a9_5 0), .ref (a20_10 0), .ref (a31_15 0), .ref q39, .ref q73, .ref (a83_57 0), .ref q92])) :: (q39, .inl (cy 3, 2, .inr (.inr (.inr (.inr (va_up (va_up (fun _ => none) (nI 0).toNatClampNeg (some (a61_31 0))) (nI 1).toNatClampNeg (some (a61_43 0)))))))) :: w8) H := hP
  have hD : va_D A ((h0, .inr (3, [.ref (a9_5 0), .ref (a20_10 0), .ref (a31_15 0), .ref q39, .ref q73, .ref (a83_57 0), .ref q92])) :: (q39, .inl (cy 3, 2, .inr (.inr (.inr (.inr (va_up (va_up (fun _ => none) (nI 0).toNatClampNeg (some (a61_31 0))) (nI 1).toNatClampNeg (some (a61_43 0)))))))) :: w8) := hD
  have hP := hP.perm (List.Perm.swap _ _ _)
  have hD := hD.perm (List.Perm.swap _ _ _)
  have hP : va_P (dC, dI) vwCl ((q39, .inl (cy 3, 2, .inr (.inr (.inr (.inr (va_up (va_up (fun _ => none) (nI 0).toNatClampNeg (some (a61_31 0))) (nI 1).toNatClampNeg (some (a61_43 0)))))))) :: (h0, .inr (3, [.ref (a9_5 0), .ref (a20_10 0), .ref (a31_15 0), .ref q39, .ref q73, .ref (a83_57 0), .ref q92])) :: w8) H := hP
  have hD : va_D A ((q39, .inl (cy 3, 2, .inr (.inr (.inr (.inr (va_up (va_up (fun _ => none) (nI 0).toNatClampNeg (some (a61_31 0))) (nI 1).toNatClampNeg (some (a61_43 0)))))))) :: (h0, .inr (3, [.ref (a9_5 0), .ref (a20_10 0), .ref (a31_15 0), .ref q39, .ref q73, .ref (a83_57 0), .ref q92])) :: w8) := hD
  have hfg : ∀ j, j < 2 → (va_up (va_up (fun _ => none) (nI 0).toNatClampNeg (some (a61_31 0))) (nI 1).toNatClampNeg (some (a61_43 0))) j = (fun j => if j = 0 then some (a61_31 0) else some (a61_43 0)) j := by
    intro j hj
    rw [nI_clamp (show 0 < 2147483648 by decide), nI_clamp (show 1 < 2147483648 by decide)]
    rcases (by omega : j = 0 ∨ j = 1) with rfl | rfl
    · rfl
    · rfl
  have hP := va_P.arr hfg hP
  have hD : va_D A ((q39, .inl (cy 3, 2, .inr (.inr (.inr (.inr (fun j => if j = 0 then some (a61_31 0) else some (a61_43 0))))))) :: (h0, .inr (3, [.ref (a9_5 0), .ref (a20_10 0), .ref (a31_15 0), .ref q39, .ref q73, .ref (a83_57 0), .ref q92])) :: w8) := va_D.arr hD
  obtain ⟨wr, hwr⟩ : ∃ w : va_W, w = ([(q39, .inl (cy 3, 2, .inr (.inr (.inr (.inr (fun j => if j = 0 then some (a61_31 0) else some (a61_43 0)))))))] : va_W) ++ (wFig a20_10 cy fig0 ++ (([(a31_15 0, .inr (1, [.ref (a31_15 1), .int (p_oldest past0), .int (p_count past0)]))] : va_W) ++ (([(a31_15 1, .inl (cy 3, 14, .inr (.inr (.inr (.inr (fun j => some (a31_15 (2 + 5 * j))))))))] : va_W) ++ (wPF a31_15 cy (fun _ => fig0) ++ (wFig a61_31 cy fig0 ++ (wFig a61_43 cy fig0 ++ (([(q73, .inl (cy 1, 2, .inl (fun _ => 0)))] : va_W) ++ (wText a83_57 cy text0 ++ ([(q92, .inl (cy 0, 100, .inl (fun _ => 0)))] : va_W))))))))) := ⟨_, rfl⟩
  have hpm : (([(q39, .inl (cy 3, 2, .inr (.inr (.inr (.inr (fun j => if j = 0 then some (a61_31 0) else some (a61_43 0)))))))] : va_W) ++ (([(h0, .inr (3, [.ref (a9_5 0), .ref (a20_10 0), .ref (a31_15 0), .ref q39, .ref q73, .ref (a83_57 0), .ref q92]))] : va_W) ++ w8)).Perm (wFig a9_5 cy fig0 ++ (([(h0, .inr (3, [.ref (a9_5 0), .ref (a20_10 0), .ref (a31_15 0), .ref q39, .ref q73, .ref (a83_57 0), .ref q92]))] : va_W) ++ wr)) := by
    rw [hwr, hw8, hw7, hw6, hw5, hw4, hw3, hw2, hw1]
    generalize wFig a9_5 cy fig0 = b1, wFig a20_10 cy fig0 = b2, wPF a31_15 cy (fun _ => fig0) = b4, wFig a61_31 cy fig0 = b5, wFig a61_43 cy fig0 = b6, wText a83_57 cy text0 = b7
    refine perm_sum (fun f hf => ?_)
    simp only [hf]
    omega
  have hP := hP.perm hpm
  have hD := hD.perm hpm
  refine lv_aload_n hx hb dX8_init_97 rfl (lv_at hl 1 rfl) ?_
  refine va_get (D := (dC, dI)) (ci := 3) (v := .ref (a9_5 0)) (C := RX8) (T := TX8) (N := 7) hx hb htg inX8 hown hK hP 5 rfl rfl 0 (by decide) (htg _ gw133) (fun _ h9 => h9) rfl dX8_init_98 ?_
  refine cVp (av := []) (rest := []) (st1 := []) (k1 := 97) (k2 := 2553) (wn := wFig a9_5 cy figA0 ++ (([(h0, .inr (3, [.ref (a9_5 0), .ref (a20_10 0), .ref (a31_15 0), .ref q39, .ref q73, .ref (a83_57 0), .ref q92]))] : va_W) ++ wr)) (ci := 0) (q0 := 0) hx hb hml hown htg hN hK (c_X1_openRing l dC dI cy a9_5 fig0  figA0 figA0_ok) (g_V gw97 gw98 gw99 gw8 gw100) hdV_X1_openRing rfl ⟨⟨Nat.le_of_ble_eq_true rfl, Nat.le_of_ble_eq_true rfl⟩, Nat.le_of_ble_eq_true rfl, Nat.le_of_ble_eq_true rfl⟩ hP hD hS hA ⟨rfl, rfl⟩ rfl (List.Perm.refl _) List.perm_append_comm hl.1 rfl (Nat.le_of_ble_eq_true rfl) rfl rfl rfl dX8_init_101 (fun H locs hP hD hS => ?_)
  refine lv_aload_n hx hb dX8_init_104 rfl (lv_at hl 1 rfl) ?_
  refine va_get (D := (dC, dI)) (ci := 3) (v := .ref (a9_5 0)) (C := RX8) (T := TX8) (N := 7) hx hb htg inX8 hown hK hP 5 rfl rfl 0 (by decide) (htg _ gw133) (fun _ h9 => h9) rfl dX8_init_105 ?_
  refine lv_iconst (v := 0) hx hb dX8_init_108 (by decide) ?_
  refine lv_iconst (v := 0) hx hb dX8_init_109 (by decide) ?_
  refine cVp (av := [.int 0, .int 0]) (rest := []) (st1 := []) (k1 := 97) (k2 := 2553) (wn := wFig a9_5 cy figA2 ++ (([(h0, .inr (3, [.ref (a9_5 0), .ref (a20_10 0), .ref (a31_15 0), .ref q39, .ref q73, .ref (a83_57 0), .ref q92]))] : va_W) ++ wr)) (ci := 0) (q0 := 0) hx hb hml hown htg hN hK (c_X1_addCorner l dC dI cy a9_5 figA0 0 0 figA2 figA2_ok) (g_V gw101 gw102 gw103 gw8 gw104) hdV_X1_addCorner rfl ⟨⟨Nat.le_of_ble_eq_true rfl, Nat.le_of_ble_eq_true rfl⟩, Nat.le_of_ble_eq_true rfl, Nat.le_of_ble_eq_true rfl⟩ hP hD hS hA ⟨rfl, rfl⟩ rfl (List.Perm.refl _) List.perm_append_comm hl.1 rfl (Nat.le_of_ble_eq_true rfl) rfl rfl rfl dX8_init_110 (fun H locs hP hD hS => ?_)
  refine lv_aload_n hx hb dX8_init_113 rfl (lv_at hl 1 rfl) ?_
  refine va_get (D := (dC, dI)) (ci := 3) (v := .ref (a9_5 0)) (C := RX8) (T := TX8) (N := 7) hx hb htg inX8 hown hK hP 5 rfl rfl 0 (by decide) (htg _ gw133) (fun _ h9 => h9) rfl dX8_init_114 ?_
  refine lv_iconst (v := 4) hx hb dX8_init_117 (by decide) ?_
  refine lv_iconst (v := 0) hx hb dX8_init_118 (by decide) ?_
  refine cVp (av := [.int 4, .int 0]) (rest := []) (st1 := []) (k1 := 97) (k2 := 2553) (wn := wFig a9_5 cy figA4 ++ (([(h0, .inr (3, [.ref (a9_5 0), .ref (a20_10 0), .ref (a31_15 0), .ref q39, .ref q73, .ref (a83_57 0), .ref q92]))] : va_W) ++ wr)) (ci := 0) (q0 := 0) hx hb hml hown htg hN hK (c_X1_addCorner l dC dI cy a9_5 figA2 4 0 figA4 figA4_ok) (g_V gw101 gw102 gw103 gw8 gw104) hdV_X1_addCorner rfl ⟨⟨Nat.le_of_ble_eq_true rfl, Nat.le_of_ble_eq_true rfl⟩, Nat.le_of_ble_eq_true rfl, Nat.le_of_ble_eq_true rfl⟩ hP hD hS hA ⟨rfl, rfl⟩ rfl (List.Perm.refl _) List.perm_append_comm hl.1 rfl (Nat.le_of_ble_eq_true rfl) rfl rfl rfl dX8_init_119 (fun H locs hP hD hS => ?_)
  refine lv_aload_n hx hb dX8_init_122 rfl (lv_at hl 1 rfl) ?_
  refine va_get (D := (dC, dI)) (ci := 3) (v := .ref (a9_5 0)) (C := RX8) (T := TX8) (N := 7) hx hb htg inX8 hown hK hP 5 rfl rfl 0 (by decide) (htg _ gw133) (fun _ h9 => h9) rfl dX8_init_123 ?_
  refine lv_iconst (v := 4) hx hb dX8_init_126 (by decide) ?_
  refine lv_iconst (v := 4) hx hb dX8_init_127 (by decide) ?_
  refine cVp (av := [.int 4, .int 4]) (rest := []) (st1 := []) (k1 := 97) (k2 := 2553) (wn := wFig a9_5 cy figA6 ++ (([(h0, .inr (3, [.ref (a9_5 0), .ref (a20_10 0), .ref (a31_15 0), .ref q39, .ref q73, .ref (a83_57 0), .ref q92]))] : va_W) ++ wr)) (ci := 0) (q0 := 0) hx hb hml hown htg hN hK (c_X1_addCorner l dC dI cy a9_5 figA4 4 4 figA6 figA6_ok) (g_V gw101 gw102 gw103 gw8 gw104) hdV_X1_addCorner rfl ⟨⟨Nat.le_of_ble_eq_true rfl, Nat.le_of_ble_eq_true rfl⟩, Nat.le_of_ble_eq_true rfl, Nat.le_of_ble_eq_true rfl⟩ hP hD hS hA ⟨rfl, rfl⟩ rfl (List.Perm.refl _) List.perm_append_comm hl.1 rfl (Nat.le_of_ble_eq_true rfl) rfl rfl rfl dX8_init_128 (fun H locs hP hD hS => ?_)
  refine lv_aload_n hx hb dX8_init_131 rfl (lv_at hl 1 rfl) ?_
  refine va_get (D := (dC, dI)) (ci := 3) (v := .ref (a9_5 0)) (C := RX8) (T := TX8) (N := 7) hx hb htg inX8 hown hK hP 5 rfl rfl 0 (by decide) (htg _ gw133) (fun _ h9 => h9) rfl dX8_init_132 ?_
  refine lv_iconst (v := 0) hx hb dX8_init_135 (by decide) ?_
  refine lv_iconst (v := 4) hx hb dX8_init_136 (by decide) ?_
  refine cVp (av := [.int 0, .int 4]) (rest := []) (st1 := []) (k1 := 97) (k2 := 2553) (wn := wFig a9_5 cy figA8 ++ (([(h0, .inr (3, [.ref (a9_5 0), .ref (a20_10 0), .ref (a31_15 0), .ref q39, .ref q73, .ref (a83_57 0), .ref q92]))] : va_W) ++ wr)) (ci := 0) (q0 := 0) hx hb hml hown htg hN hK (c_X1_addCorner l dC dI cy a9_5 figA6 0 4 figA8 figA8_ok) (g_V gw101 gw102 gw103 gw8 gw104) hdV_X1_addCorner rfl ⟨⟨Nat.le_of_ble_eq_true rfl, Nat.le_of_ble_eq_true rfl⟩, Nat.le_of_ble_eq_true rfl, Nat.le_of_ble_eq_true rfl⟩ hP hD hS hA ⟨rfl, rfl⟩ rfl (List.Perm.refl _) List.perm_append_comm hl.1 rfl (Nat.le_of_ble_eq_true rfl) rfl rfl rfl dX8_init_137 (fun H locs hP hD hS => ?_)
  obtain ⟨X, hX⟩ : ∃ X : Nat → Nat, X = fun n : Nat => if n < 1 then h0 else if n < 6 then a9_5 (n - 1) else if n < 11 then a20_10 (n - 6) else if n < 83 then a31_15 (n - 11) else if n < 84 then q39 else if n < 89 then a61_31 (n - 84) else if n < 94 then a61_43 (n - 89) else if n < 95 then q73 else if n < 97 then a83_57 (n - 95) else q92 := ⟨_, rfl⟩
  have x0 : X 0 = h0 := by rw [hX]; rfl
  have x1 : ∀ j, j < 5 → X (1 + j) = a9_5 j := fun j hj => by rw [hX]; dsimp only; rw [if_neg (by omega), if_pos (by omega), Nat.add_sub_cancel_left]
  have x6 : ∀ j, j < 5 → X (6 + j) = a20_10 j := fun j hj => by rw [hX]; dsimp only; rw [if_neg (by omega), if_neg (by omega), if_pos (by omega), Nat.add_sub_cancel_left]
  have x11 : ∀ j, j < 72 → X (11 + j) = a31_15 j := fun j hj => by rw [hX]; dsimp only; rw [if_neg (by omega), if_neg (by omega), if_neg (by omega), if_pos (by omega), Nat.add_sub_cancel_left]
  have x83 : X 83 = q39 := by rw [hX]; rfl
  have x84 : ∀ j, j < 5 → X (84 + j) = a61_31 j := fun j hj => by rw [hX]; dsimp only; rw [if_neg (by omega), if_neg (by omega), if_neg (by omega), if_neg (by omega), if_neg (by omega), if_pos (by omega), Nat.add_sub_cancel_left]
  have x89 : ∀ j, j < 5 → X (89 + j) = a61_43 j := fun j hj => by rw [hX]; dsimp only; rw [if_neg (by omega), if_neg (by omega), if_neg (by omega), if_neg (by omega), if_neg (by omega), if_neg (by omega), if_pos (by omega), Nat.add_sub_cancel_left]
  have x94 : X 94 = q73 := by rw [hX]; rfl
  have x95 : ∀ j, j < 2 → X (95 + j) = a83_57 j := fun j hj => by rw [hX]; dsimp only; rw [if_neg (by omega), if_neg (by omega), if_neg (by omega), if_neg (by omega), if_neg (by omega), if_neg (by omega), if_neg (by omega), if_neg (by omega), if_pos (by omega), Nat.add_sub_cancel_left]
  have x97 : X 97 = q92 := by rw [hX]; rfl
  clear hX
  have hfg2 : ∀ j, j < 2 → (fun j => if j = 0 then some (a61_31 0) else some (a61_43 0)) j = (fun j => some (X (83 + (1 + 5 * j)))) j := by
    intro j hj
    rcases (by omega : j = 0 ∨ j = 1) with rfl | rfl
    · exact congrArg some (x84 0 (by omega)).symm
    · exact congrArg some (x89 0 (by omega)).symm
  rw [hwr] at hP hD
  have hpm2 : (wFig a9_5 cy figA8 ++ (([(h0, .inr (3, [.ref (a9_5 0), .ref (a20_10 0), .ref (a31_15 0), .ref q39, .ref q73, .ref (a83_57 0), .ref q92]))] : va_W) ++ (([(q39, .inl (cy 3, 2, .inr (.inr (.inr (.inr (fun j => if j = 0 then some (a61_31 0) else some (a61_43 0)))))))] : va_W) ++ (wFig a20_10 cy fig0 ++ (([(a31_15 0, .inr (1, [.ref (a31_15 1), .int (p_oldest past0), .int (p_count past0)]))] : va_W) ++ (([(a31_15 1, .inl (cy 3, 14, .inr (.inr (.inr (.inr (fun j => some (a31_15 (2 + 5 * j))))))))] : va_W) ++ (wPF a31_15 cy (fun _ => fig0) ++ (wFig a61_31 cy fig0 ++ (wFig a61_43 cy fig0 ++ (([(q73, .inl (cy 1, 2, .inl (fun _ => 0)))] : va_W) ++ (wText a83_57 cy text0 ++ ([(q92, .inl (cy 0, 100, .inl (fun _ => 0)))] : va_W)))))))))))).Perm (([(q39, .inl (cy 3, 2, .inr (.inr (.inr (.inr (fun j => if j = 0 then some (a61_31 0) else some (a61_43 0)))))))] : va_W) ++ (wFig a9_5 cy figA8 ++ (([(h0, .inr (3, [.ref (a9_5 0), .ref (a20_10 0), .ref (a31_15 0), .ref q39, .ref q73, .ref (a83_57 0), .ref q92]))] : va_W) ++ (wFig a20_10 cy fig0 ++ (([(a31_15 0, .inr (1, [.ref (a31_15 1), .int (p_oldest past0), .int (p_count past0)]))] : va_W) ++ (([(a31_15 1, .inl (cy 3, 14, .inr (.inr (.inr (.inr (fun j => some (a31_15 (2 + 5 * j))))))))] : va_W) ++ (wPF a31_15 cy (fun _ => fig0) ++ (wFig a61_31 cy fig0 ++ (wFig a61_43 cy fig0 ++ (([(q73, .inl (cy 1, 2, .inl (fun _ => 0)))] : va_W) ++ (wText a83_57 cy text0 ++ ([(q92, .inl (cy 0, 100, .inl (fun _ => 0)))] : va_W)))))))))))) := by
    generalize wFig a9_5 cy figA8 = b1, (wFig a20_10 cy fig0 ++ (([(a31_15 0, .inr (1, [.ref (a31_15 1), .int (p_oldest past0), .int (p_count past0)]))] : va_W) ++ (([(a31_15 1, .inl (cy 3, 14, .inr (.inr (.inr (.inr (fun j => some (a31_15 (2 + 5 * j))))))))] : va_W) ++ (wPF a31_15 cy (fun _ => fig0) ++ (wFig a61_31 cy fig0 ++ (wFig a61_43 cy fig0 ++ (([(q73, .inl (cy 1, 2, .inl (fun _ => 0)))] : va_W) ++ (wText a83_57 cy text0 ++ ([(q92, .inl (cy 0, 100, .inl (fun _ => 0)))] : va_W))))))))) = b2
    refine perm_sum (fun f hf => ?_)
    simp only [hf]
    omega
  have hP := va_P.arr hfg2 (hP.perm hpm2)
  have hD := va_D.arr (y := .inl (cy 3, 2, .inr (.inr (.inr (.inr (fun j => some (X (83 + (1 + 5 * j))))))))) (hD.perm hpm2)
  have hpm2b : (([(q39, .inl (cy 3, 2, .inr (.inr (.inr (.inr (fun j => some (X (83 + (1 + 5 * j)))))))))] : va_W) ++ (wFig a9_5 cy figA8 ++ (([(h0, .inr (3, [.ref (a9_5 0), .ref (a20_10 0), .ref (a31_15 0), .ref q39, .ref q73, .ref (a83_57 0), .ref q92]))] : va_W) ++ (wFig a20_10 cy fig0 ++ (([(a31_15 0, .inr (1, [.ref (a31_15 1), .int (p_oldest past0), .int (p_count past0)]))] : va_W) ++ (([(a31_15 1, .inl (cy 3, 14, .inr (.inr (.inr (.inr (fun j => some (a31_15 (2 + 5 * j))))))))] : va_W) ++ (wPF a31_15 cy (fun _ => fig0) ++ (wFig a61_31 cy fig0 ++ (wFig a61_43 cy fig0 ++ (([(q73, .inl (cy 1, 2, .inl (fun _ => 0)))] : va_W) ++ (wText a83_57 cy text0 ++ ([(q92, .inl (cy 0, 100, .inl (fun _ => 0)))] : va_W)))))))))))).Perm (([(a31_15 1, .inl (cy 3, 14, .inr (.inr (.inr (.inr (fun j => some (a31_15 (2 + 5 * j))))))))] : va_W) ++ (([(a31_15 0, .inr (1, [.ref (a31_15 1), .int (p_oldest past0), .int (p_count past0)]))] : va_W) ++ (([(q39, .inl (cy 3, 2, .inr (.inr (.inr (.inr (fun j => some (X (83 + (1 + 5 * j)))))))))] : va_W) ++ (wFig a9_5 cy figA8 ++ (([(h0, .inr (3, [.ref (a9_5 0), .ref (a20_10 0), .ref (a31_15 0), .ref q39, .ref q73, .ref (a83_57 0), .ref q92]))] : va_W) ++ ((wFig a20_10 cy fig0 ++ (wPF a31_15 cy (fun _ => fig0) ++ (wFig a61_31 cy fig0 ++ (wFig a61_43 cy fig0 ++ (([(q73, .inl (cy 1, 2, .inl (fun _ => 0)))] : va_W) ++ (wText a83_57 cy text0 ++ ([(q92, .inl (cy 0, 100, .inl (fun _ => 0)))] : va_W))))))))))))) := by
    generalize wFig a9_5 cy figA8 = b1, wFig a20_10 cy fig0 = b2, wPF a31_15 cy (fun _ => fig0) = b4, wFig a61_31 cy fig0 = b5, wFig a61_43 cy fig0 = b6, wText a83_57 cy text0 = b7
    refine perm_sum (fun f hf => ?_)
    simp only [hf]
    omega
  have hfg3 : ∀ j, j < 14 → (fun j => some (a31_15 (2 + 5 * j))) j = (fun j => some (X (11 + (2 + 5 * j)))) j := fun j hj => congrArg some (x11 _ (by omega)).symm
  have hP := va_P.arr hfg3 (hP.perm hpm2b)
  have hD := va_D.arr (y := .inl (cy 3, 14, .inr (.inr (.inr (.inr (fun j => some (X (11 + (2 + 5 * j))))))))) (hD.perm hpm2b)
  have hpm3 : (([(a31_15 1, .inl (cy 3, 14, .inr (.inr (.inr (.inr (fun j => some (X (11 + (2 + 5 * j)))))))))] : va_W) ++ (([(a31_15 0, .inr (1, [.ref (a31_15 1), .int (p_oldest past0), .int (p_count past0)]))] : va_W) ++ (([(q39, .inl (cy 3, 2, .inr (.inr (.inr (.inr (fun j => some (X (83 + (1 + 5 * j)))))))))] : va_W) ++ (wFig a9_5 cy figA8 ++ (([(h0, .inr (3, [.ref (a9_5 0), .ref (a20_10 0), .ref (a31_15 0), .ref q39, .ref q73, .ref (a83_57 0), .ref q92]))] : va_W) ++ ((wFig a20_10 cy fig0 ++ (wPF a31_15 cy (fun _ => fig0) ++ (wFig a61_31 cy fig0 ++ (wFig a61_43 cy fig0 ++ (([(q73, .inl (cy 1, 2, .inl (fun _ => 0)))] : va_W) ++ (wText a83_57 cy text0 ++ ([(q92, .inl (cy 0, 100, .inl (fun _ => 0)))] : va_W))))))))))))).Perm (SPw X cy figA8) := by
    unfold SPw
    rw [wFig_congr (a := fun j => X (1 + j)) x1, wFig_congr (a := fun j => X (6 + j)) x6, wPF_congr (a := fun j => X (11 + j)) x11, wText_congr (a := fun j => X (95 + j)) x95]
    have e2 : wSlots (fun j => X (83 + j)) cy (fun _ => fig0) = [(q39, .inl (cy 3, 2, .inr (.inr (.inr (.inr (fun j => some (X (83 + (1 + 5 * j)))))))))] ++ wFig a61_31 cy fig0 ++ wFig a61_43 cy fig0 := by
      show ([(X (83 + 0), .inl (cy 3, 2, .inr (.inr (.inr (.inr (fun j => some (X (83 + (1 + 5 * j)))))))))] ++ wFig (fun j => X (83 + (1 + j))) cy fig0 ++ wFig (fun j => X (83 + (6 + j))) cy fig0 : va_W) = _
      rw [show X (83 + 0) = q39 from x83, wFig_congr (a := fun j => X (83 + (1 + j))) (b := a61_31) (fun j hj => by rw [← Nat.add_assoc]; exact x84 j hj), wFig_congr (a := fun j => X (83 + (6 + j))) (b := a61_43) (fun j hj => by rw [← Nat.add_assoc]; exact x89 j hj)]
    rw [e2]
    have e0 : wP2 (fun j => X (11 + j)) cy past0 = [(a31_15 0, .inr (1, [.ref (a31_15 1), .int (p_oldest past0), .int (p_count past0)]))] ++ [(a31_15 1, .inl (cy 3, 14, .inr (.inr (.inr (.inr (fun j => some (X (11 + (2 + 5 * j)))))))))] := by
      show ([(X (11 + 0), .inr (1, [.ref (X (11 + 1)), .int (p_oldest past0), .int (p_count past0)])), (X (11 + 1), .inl (cy 3, 14, .inr (.inr (.inr (.inr (fun j => some (X (11 + (2 + 5 * j)))))))))] : va_W) = _
      rw [x11 0 (by omega), x11 1 (by omega)]
      rfl
    rw [e0]
    have e1 : wSPo X = [(h0, .inr (3, [.ref (a9_5 0), .ref (a20_10 0), .ref (a31_15 0), .ref q39, .ref q73, .ref (a83_57 0), .ref q92]))] := by
      unfold wSPo
      rw [x0, show X 1 = a9_5 0 from x1 0 (by omega), show X 6 = a20_10 0 from x6 0 (by omega), show X 11 = a31_15 0 from x11 0 (by omega), x83, x94, show X 95 = a83_57 0 from x95 0 (by omega), x97]
    rw [e1]
    unfold wBA wIA
    rw [x94, x97]
    generalize wFig a9_5 cy figA8 = b1, wFig a20_10 cy fig0 = b2, wPF a31_15 cy (fun _ => fig0) = b4, wFig a61_31 cy fig0 = b5, wFig a61_43 cy fig0 = b6, wText a83_57 cy text0 = b7
    refine perm_sum (fun f hf => ?_)
    simp only [hf]
    omega
  exact hE H locs 140 ls (SPw X cy figA8) ⟨X, x0, rfl⟩ (hP.perm hpm3) (hD.perm hpm3) hS dX8_init_140
