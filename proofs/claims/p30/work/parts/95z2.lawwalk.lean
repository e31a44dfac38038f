set_option maxHeartbeats 8000000 in
set_option maxRecDepth 100000 in
theorem law_j552 {p : Program} {l : Launch} {e : Env} {s : State} {mm : MethodId} {below : List Frame} {meth : Method} {cd : Code} {dC : Nat → ClassId} {dI : Nat → Nat → Nat} {cy : Nat → ClassId} {b L : Nat} {xs : Nat → Int32} (C0 : lw_At p s mm meth cd b L xs) (hlt : l.stackTraces = false) (hN : NW s) (hNC : NC s) (hX0 : EX (lwA s) s s.heap) (hK : va_K (dC, dI) vwCl (TY cy) s) {x : Nat → Nat} {a5 a6 a7 a8 a9 a10 : Nat} {R : Fig → Fig → PastS → (Nat → Int32) → (Nat → Int32) → (Nat → Int32) → (Nat → Int32) → (Nat → Int32) → (Nat → Int32) → Int32 → Option (Int32)} {kc kz : Nat} (hkc : kc + 3 ≤ 600104) (hkz : kz + 18 ≤ 7301314) (ih : LK p l e s mm below meth cd dC dI cy b x a5 a6 a7 a8 a9 a10 R (kc + 3) (kz + 18)) : ∀ (F_552 : Fig) (D_552 : Fig) (P_552 : PastS) (w5_552 : Nat → Int32) (w6_552 : Nat → Int32) (w7_552 : Nat → Int32) (w8_552 : Nat → Int32) (w9_552 : Nat → Int32) (w10_552 : Nat → Int32) (l16_552 : Int32) (l12_552 : Int32) (l11_552 : Int32) (l9_552 : Int32) (l8_552 : Int32) (H : Heap) (locs : List Loc) (ls : Array Slot), G_L_law_j552 R L xs F_552 D_552 P_552 w5_552 w6_552 w7_552 w8_552 w9_552 w10_552 l16_552 l12_552 l11_552 l9_552 l8_552 = some 1 → va_P (dC, dI) vwCl (wSPo x ++ wFig (fun j => x (1 + j)) cy F_552 ++ wFig (fun j => x (6 + j)) cy D_552 ++ wP2 (fun j => x (11 + j)) cy P_552 ++ wIA a5 cy 5 w5_552 ++ wIA a6 cy 40 w6_552 ++ wIA a7 cy 40 w7_552 ++ wIA a8 cy 5 w8_552 ++ wIA a9 cy 40 w9_552 ++ wIA a10 cy 40 w10_552 ++ wPF (fun j => x (11 + j)) cy (p_figs P_552)) H → va_D (lwA s) (wSPo x ++ wFig (fun j => x (1 + j)) cy F_552 ++ wFig (fun j => x (6 + j)) cy D_552 ++ wP2 (fun j => x (11 + j)) cy P_552 ++ wIA a5 cy 5 w5_552 ++ wIA a6 cy 40 w6_552 ++ wIA a7 cy 40 w7_552 ++ wIA a8 cy 5 w8_552 ++ wIA a9 cy 40 w9_552 ++ wIA a10 cy 40 w10_552 ++ wPF (fun j => x (11 + j)) cy (p_figs P_552)) → va_S (lwA s) s.heap H locs → lv_has ls 18 [(16, .int l16_552), (12, .int l12_552), (11, .int l11_552), (9, .int l9_552), (8, .int l8_552), (0, .ref b), (1, .ref (x 0)), (2, .ref a5), (3, .ref a6), (4, .ref a7), (5, .ref a8), (6, .ref a9), (7, .ref a10)] → W p l e room_1 s mm #[Value.ref b] below meth cd H locs (kc + 0) (kz + 0) (lw_Z below #[Value.ref b] s) (F0 mm 552 ls []) := by
  have C1 := C0
  obtain ⟨hx, hb, hr, hml, hown, hts, hXs, hbl, hlocks, hgv⟩ := C0
  have htg : ∀ w ∈ GW, w.before #[Value.ref b] s = true := fun w hw => hts w (List.mem_filter.mp hw).1
  have hA : ∀ q : Nat, s.heap.size ≤ q → lwA s q := fun _ h => h
  have hbA : ¬ lwA s b := Nat.not_le.mpr hbl
  intro F_552 D_552 P_552 w5_552 w6_552 w7_552 w8_552 w9_552 w10_552 l16_552 l12_552 l11_552 l9_552 l8_552 H locs ls h hP hD hS hl
  unfold G_L_law_j552 at h
  refine lv_aload hx hb dL_law_552 (lv_at hl 10 rfl) ?_
  refine lv_iconst (v := 1) hx hb dL_law_554 (by decide) ?_
  refine lv_iload hx hb dL_law_555 (lv_at hl 2 rfl) ?_
  refine lv_iadd hx hb dL_law_557 ?_
  refine lv_dup2_11 hx hb dL_law_558 rfl rfl ?_
  obtain ⟨v559, e559, h⟩ := bnd h
  refine x_iald (v := v559) hx hb hK hP 16 0 rfl rfl e559 dL_law_559 ?_
  refine lv_iload hx hb dL_law_560 (lv_at hl 0 rfl) ?_
  obtain ⟨b562, e562, h⟩ := bnd h
  have hr570 : ∀ (H : Heap) (locs : List Loc) (ls : Array Slot), va_P (dC, dI) vwCl (wSPo x ++ wFig (fun j => x (1 + j)) cy F_552 ++ wFig (fun j => x (6 + j)) cy D_552 ++ wP2 (fun j => x (11 + j)) cy P_552 ++ wIA a5 cy 5 w5_552 ++ wIA a6 cy 40 w6_552 ++ wIA a7 cy 40 w7_552 ++ wIA a8 cy 5 w8_552 ++ wIA a9 cy 40 w9_552 ++ wIA a10 cy 40 w10_552 ++ wPF (fun j => x (11 + j)) cy (p_figs P_552)) H → va_D (lwA s) (wSPo x ++ wFig (fun j => x (1 + j)) cy F_552 ++ wFig (fun j => x (6 + j)) cy D_552 ++ wP2 (fun j => x (11 + j)) cy P_552 ++ wIA a5 cy 5 w5_552 ++ wIA a6 cy 40 w6_552 ++ wIA a7 cy 40 w7_552 ++ wIA a8 cy 5 w8_552 ++ wIA a9 cy 40 w9_552 ++ wIA a10 cy 40 w10_552 ++ wPF (fun j => x (11 + j)) cy (p_figs P_552)) → va_S (lwA s) s.heap H locs → lv_has ls 18 [(16, .int l16_552), (12, .int l12_552), (11, .int l11_552), (9, .int l9_552), (8, .int l8_552), (0, .ref b), (1, .ref (x 0)), (2, .ref a5), (3, .ref a6), (4, .ref a7), (5, .ref a8), (6, .ref a9), (7, .ref a10)] → W p l e room_1 s mm #[Value.ref b] below meth cd H locs (kc + 0) (kz + 0) (lw_Z below #[Value.ref b] s) (F0 mm 570 ls [.int b562, .int v559, .int (1 + l11_552), .ref a8]) := by
    intro H locs ls hP hD hS hl
    refine lv_isub hx hb dL_law_570 ?_
    obtain ⟨g571, e571, h⟩ := bnd h
    refine x_iast (g := g571) hx hb hK hP hD hS 16 0 rfl rfl e571 dL_law_571 (fun H locs hP hD hS => ?_)
    have hP : va_P (dC, dI) vwCl (wSPo x ++ wFig (fun j => x (1 + j)) cy F_552 ++ wFig (fun j => x (6 + j)) cy D_552 ++ wP2 (fun j => x (11 + j)) cy P_552 ++ wIA a5 cy 5 w5_552 ++ wIA a6 cy 40 w6_552 ++ wIA a7 cy 40 w7_552 ++ wIA a8 cy 5 g571 ++ wIA a9 cy 40 w9_552 ++ wIA a10 cy 40 w10_552 ++ wPF (fun j => x (11 + j)) cy (p_figs P_552)) H := hP
    have hD : va_D (lwA s) (wSPo x ++ wFig (fun j => x (1 + j)) cy F_552 ++ wFig (fun j => x (6 + j)) cy D_552 ++ wP2 (fun j => x (11 + j)) cy P_552 ++ wIA a5 cy 5 w5_552 ++ wIA a6 cy 40 w6_552 ++ wIA a7 cy 40 w7_552 ++ wIA a8 cy 5 g571 ++ wIA a9 cy 40 w9_552 ++ wIA a10 cy 40 w10_552 ++ wPF (fun j => x (11 + j)) cy (p_figs P_552)) := hD
    refine lv_iload hx hb dL_law_572 (lv_at hl 0 rfl) ?_
    obtain ⟨b574, e574, h⟩ := bnd h
    have hr594 : ∀ (H : Heap) (locs : List Loc) (ls : Array Slot), va_P (dC, dI) vwCl (wSPo x ++ wFig (fun j => x (1 + j)) cy F_552 ++ wFig (fun j => x (6 + j)) cy D_552 ++ wP2 (fun j => x (11 + j)) cy P_552 ++ wIA a5 cy 5 w5_552 ++ wIA a6 cy 40 w6_552 ++ wIA a7 cy 40 w7_552 ++ wIA a8 cy 5 g571 ++ wIA a9 cy 40 w9_552 ++ wIA a10 cy 40 w10_552 ++ wPF (fun j => x (11 + j)) cy (p_figs P_552)) H → va_D (lwA s) (wSPo x ++ wFig (fun j => x (1 + j)) cy F_552 ++ wFig (fun j => x (6 + j)) cy D_552 ++ wP2 (fun j => x (11 + j)) cy P_552 ++ wIA a5 cy 5 w5_552 ++ wIA a6 cy 40 w6_552 ++ wIA a7 cy 40 w7_552 ++ wIA a8 cy 5 g571 ++ wIA a9 cy 40 w9_552 ++ wIA a10 cy 40 w10_552 ++ wPF (fun j => x (11 + j)) cy (p_figs P_552)) → va_S (lwA s) s.heap H locs → lv_has ls 18 [(16, .int l16_552), (12, .int l12_552), (11, .int l11_552), (9, .int l9_552), (8, .int l8_552), (0, .ref b), (1, .ref (x 0)), (2, .ref a5), (3, .ref a6), (4, .ref a7), (5, .ref a8), (6, .ref a9), (7, .ref a10)] → W p l e room_1 s mm #[Value.ref b] below meth cd H locs (kc + 0) (kz + 0) (lw_Z below #[Value.ref b] s) (F0 mm 594 ls [.int b574]) := by
      intro H locs ls hP hD hS hl
      refine lv_istore (lv' := [(17, .int b574), (16, .int l16_552), (12, .int l12_552), (11, .int l11_552), (9, .int l9_552), (8, .int l8_552), (0, .ref b), (1, .ref (x 0)), (2, .ref a5), (3, .ref a6), (4, .ref a7), (5, .ref a8), (6, .ref a9), (7, .ref a10)]) hx hb dL_law_594 hl (by decide) rfl (fun ls hl => ?_)
      refine lv_aload_n hx hb dL_law_596 rfl (lv_at hl 7 rfl) ?_
      refine lv_iload hx hb dL_law_597 (lv_at hl 3 rfl) ?_
      refine lv_iload hx hb dL_law_599 (lv_at hl 2 rfl) ?_
      obtain ⟨v601, e601, h⟩ := bnd h
      refine cLWp (av := [.ref (x 0), .int l11_552, .int l12_552]) (rest := []) (st1 := [.int v601.1]) (k1 := kc + 2) (k2 := kz + 12) (wr := wIA a5 cy 5 w5_552 ++ wIA a6 cy 40 w6_552 ++ wIA a7 cy 40 w7_552 ++ wIA a8 cy 5 g571 ++ wIA a9 cy 40 w9_552 ++ wIA a10 cy 40 w10_552) (wn := wSPo x ++ wFig (fun j => x (1 + j)) cy v601.2.1 ++ wFig (fun j => x (6 + j)) cy v601.2.2.1 ++ wP2 (fun j => x (11 + j)) cy v601.2.2.2 ++ wIA a5 cy 5 w5_552 ++ wIA a6 cy 40 w6_552 ++ wIA a7 cy 40 w7_552 ++ wIA a8 cy 5 g571 ++ wIA a9 cy 40 w9_552 ++ wIA a10 cy 40 w10_552 ++ wPF (fun j => x (11 + j)) cy (p_figs v601.2.2.2)) hx hb hml hown htg hN hK hX0 hNC (c_L_remove l dC dI cy hlt x F_552 D_552 P_552 l11_552 l12_552 v601 e601) ⟨gw398, gw399, gw6, cw_remove⟩ hdS_L_remove rfl ⟨⟨Nat.le_of_ble_eq_true rfl, Nat.le_of_ble_eq_true rfl⟩, (by show kc + 0 + 2 ≤ 600104; omega), (by show kz + 0 + 12 ≤ 7301314; omega)⟩ hP hD hS hA (perm_T (perm_ix 19 [0, 1, 2, 3, 4, 5, 6, 7, 8, 9, 10, 11, 12] [13, 14, 15, 16, 17, 18] rfl rfl rfl (by decide))) (perm_Tb (perm_ix 19 [13, 14, 15, 16, 17, 18] [0, 1, 2, 3, 4, 5, 6, 7, 8, 9, 10, 11, 12] rfl rfl rfl (by decide))) hl.1 rfl (Nat.le_of_ble_eq_true rfl) rfl (by show kc + 0 + 2 = kc + 2; omega) (by show kz + 0 + 12 = kz + 12; omega) dL_law_601 (fun H locs hP hD hS => ?_)
      refine lv_iload hx hb dL_law_604 (lv_at hl 0 rfl) ?_
      obtain ⟨b606, e606, h⟩ := bnd h
      have hr623 : ∀ (H : Heap) (locs : List Loc) (ls : Array Slot), va_P (dC, dI) vwCl (wSPo x ++ wFig (fun j => x (1 + j)) cy v601.2.1 ++ wFig (fun j => x (6 + j)) cy v601.2.2.1 ++ wP2 (fun j => x (11 + j)) cy v601.2.2.2 ++ wIA a5 cy 5 w5_552 ++ wIA a6 cy 40 w6_552 ++ wIA a7 cy 40 w7_552 ++ wIA a8 cy 5 g571 ++ wIA a9 cy 40 w9_552 ++ wIA a10 cy 40 w10_552 ++ wPF (fun j => x (11 + j)) cy (p_figs v601.2.2.2)) H → va_D (lwA s) (wSPo x ++ wFig (fun j => x (1 + j)) cy v601.2.1 ++ wFig (fun j => x (6 + j)) cy v601.2.2.1 ++ wP2 (fun j => x (11 + j)) cy v601.2.2.2 ++ wIA a5 cy 5 w5_552 ++ wIA a6 cy 40 w6_552 ++ wIA a7 cy 40 w7_552 ++ wIA a8 cy 5 g571 ++ wIA a9 cy 40 w9_552 ++ wIA a10 cy 40 w10_552 ++ wPF (fun j => x (11 + j)) cy (p_figs v601.2.2.2)) → va_S (lwA s) s.heap H locs → lv_has ls 18 [(17, .int b574), (16, .int l16_552), (12, .int l12_552), (11, .int l11_552), (9, .int l9_552), (8, .int l8_552), (0, .ref b), (1, .ref (x 0)), (2, .ref a5), (3, .ref a6), (4, .ref a7), (5, .ref a8), (6, .ref a9), (7, .ref a10)] → W p l e room_1 s mm #[Value.ref b] below meth cd H locs (kc + 2) (kz + 12) (lw_Z below #[Value.ref b] s) (F0 mm 623 ls [.int b606, .int v601.1]) := by
        intro H locs ls hP hD hS hl
        refine lv_icmp_eq (tgt := 628) hx hb dL_law_623 (by decide) (fun c623 => ?_) (fun c623 => ?_)
        · replace h := if_t h c623
          refine lv_iload hx hb dL_law_628 (lv_at hl 0 rfl) ?_
          refine lv_if_eq (tgt := 646) hx hb dL_law_630 (by decide) (fun c630 => ?_) (fun c630 => ?_)
          · replace h := if_t h c630
            exact (law_j646 C1 hlt hN hNC hX0 hK hkc hkz ih) v601.2.1 v601.2.2.1 v601.2.2.2 w5_552 w6_552 w7_552 g571 w9_552 w10_552 l9_552 l8_552 H locs ls h hP hD hS (lv_sub hl [4, 5, 6, 7, 8, 9, 10, 11, 12, 13] rfl)
          replace h := if_f h c630
          refine lv_aload hx hb dL_law_633 (lv_at hl 11 rfl) ?_
          refine lv_aload hx hb dL_law_635 (lv_at hl 12 rfl) ?_
          refine lv_aload hx hb dL_law_637 (lv_at hl 13 rfl) ?_
          refine lv_aload_n hx hb dL_law_639 rfl (lv_at hl 8 rfl) ?_
          refine lv_aload_n hx hb dL_law_640 rfl (lv_at hl 9 rfl) ?_
          refine lv_aload hx hb dL_law_641 (lv_at hl 10 rfl) ?_
          obtain ⟨v643, e643, h⟩ := bnd h
          refine cSp (av := [.ref a8, .ref a9, .ref a10, .ref a5, .ref a6, .ref a7]) (rest := []) (st1 := []) (k1 := kc + 2) (k2 := kz + 12) (wr := wSPo x ++ wFig (fun j => x (1 + j)) cy v601.2.1 ++ wFig (fun j => x (6 + j)) cy v601.2.2.1 ++ wP2 (fun j => x (11 + j)) cy v601.2.2.2 ++ wPF (fun j => x (11 + j)) cy (p_figs v601.2.2.2)) (wn := wSPo x ++ wFig (fun j => x (1 + j)) cy v601.2.1 ++ wFig (fun j => x (6 + j)) cy v601.2.2.1 ++ wP2 (fun j => x (11 + j)) cy v601.2.2.2 ++ wIA a5 cy 5 v643.1 ++ wIA a6 cy 40 v643.2.1 ++ wIA a7 cy 40 v643.2.2 ++ wIA a8 cy 5 g571 ++ wIA a9 cy 40 w9_552 ++ wIA a10 cy 40 w10_552 ++ wPF (fun j => x (11 + j)) cy (p_figs v601.2.2.2)) hx hb hml hown htg hN hK (c_L_copy l dC dI cy a8 a9 a10 a5 a6 a7 5 40 40 5 40 40 g571 w9_552 w10_552 w5_552 w6_552 w7_552  v643 e643) (g_S gw603 gw604 gw6 gw605) hdS_L_copy rfl ⟨⟨Nat.le_of_ble_eq_true rfl, Nat.le_of_ble_eq_true rfl⟩, (by show kc + 2 + 0 ≤ 600104; omega), (by show kz + 12 + 0 ≤ 7301314; omega)⟩ hP hD hS hA (perm_N (perm_ix 19 [16, 17, 18, 13, 14, 15] [0, 1, 2, 3, 4, 5, 6, 7, 8, 9, 10, 11, 12] rfl rfl rfl (by decide))) (perm_Nb (perm_ix 19 [0, 1, 2, 3, 4, 5, 6, 7, 8, 9, 10, 11, 12] [16, 17, 18, 13, 14, 15] rfl rfl rfl (by decide))) hl.1 rfl (Nat.le_of_ble_eq_true rfl) rfl (by show kc + 2 + 0 = kc + 2; omega) (by show kz + 12 + 0 = kz + 12; omega) dL_law_643 (fun H locs hP hD hS => ?_)
          exact (law_j646 C1 hlt hN hNC hX0 hK hkc hkz ih) v601.2.1 v601.2.2.1 v601.2.2.2 v643.1 v643.2.1 v643.2.2 g571 w9_552 w10_552 l9_552 l8_552 H locs ls h hP hD hS (lv_sub hl [4, 5, 6, 7, 8, 9, 10, 11, 12, 13] rfl)
        replace h := if_f h c623
        refine lv_iconst (v := 0) hx hb dL_law_626 (by decide) ?_
        exact absurd (Option.some.inj h) (by decide)
      have h := e606
      clear e606
      refine lv_if_eq (tgt := 621) hx hb dL_law_606 (by decide) (fun c606 => ?_) (fun c606 => ?_)
      · replace h := if_t h c606
        refine lv_bipush (v := (-2)) hx hb dL_law_621 (by decide) ?_
        obtain rfl := Option.some.inj h
        exact hr623 H locs ls hP hD hS hl
      replace h := if_f h c606
      refine lv_aload hx hb dL_law_609 (lv_at hl 11 rfl) ?_
      refine lv_aload hx hb dL_law_611 (lv_at hl 12 rfl) ?_
      refine lv_aload hx hb dL_law_613 (lv_at hl 13 rfl) ?_
      obtain ⟨v615, e615, h⟩ := bnd h
      refine cSp (av := [.ref a8, .ref a9, .ref a10]) (rest := [.int v601.1]) (st1 := [.int v615, .int v601.1]) (k1 := kc + 2) (k2 := kz + 12) (wr := wSPo x ++ wFig (fun j => x (1 + j)) cy v601.2.1 ++ wFig (fun j => x (6 + j)) cy v601.2.2.1 ++ wP2 (fun j => x (11 + j)) cy v601.2.2.2 ++ wIA a5 cy 5 w5_552 ++ wIA a6 cy 40 w6_552 ++ wIA a7 cy 40 w7_552 ++ wPF (fun j => x (11 + j)) cy (p_figs v601.2.2.2)) (wn := wSPo x ++ wFig (fun j => x (1 + j)) cy v601.2.1 ++ wFig (fun j => x (6 + j)) cy v601.2.2.1 ++ wP2 (fun j => x (11 + j)) cy v601.2.2.2 ++ wIA a5 cy 5 w5_552 ++ wIA a6 cy 40 w6_552 ++ wIA a7 cy 40 w7_552 ++ wIA a8 cy 5 g571 ++ wIA a9 cy 40 w9_552 ++ wIA a10 cy 40 w10_552 ++ wPF (fun j => x (11 + j)) cy (p_figs v601.2.2.2)) hx hb hml hown htg hN hK (c_L_area l dC dI cy a8 a9 a10 5 40 40 g571 w9_552 w10_552  v615 e615) (g_S gw471 gw472 gw6 gw473) hdS_L_area rfl ⟨⟨Nat.le_of_ble_eq_true rfl, Nat.le_of_ble_eq_true rfl⟩, (by show kc + 2 + 0 ≤ 600104; omega), (by show kz + 12 + 0 ≤ 7301314; omega)⟩ hP hD hS hA (perm_N (perm_ix 19 [16, 17, 18] [0, 1, 2, 3, 4, 5, 6, 7, 8, 9, 10, 11, 12, 13, 14, 15] rfl rfl rfl (by decide))) (perm_Nb (perm_ix 19 [0, 1, 2, 3, 4, 5, 6, 7, 8, 9, 10, 11, 12, 13, 14, 15] [16, 17, 18] rfl rfl rfl (by decide))) hl.1 rfl (Nat.le_of_ble_eq_true rfl) rfl (by show kc + 2 + 0 = kc + 2; omega) (by show kz + 12 + 0 = kz + 12; omega) dL_law_615 (fun H locs hP hD hS => ?_)
      refine lv_goto (tgt := 623) hx hb dL_law_618 (by decide) ?_
      obtain rfl := Option.some.inj h
      exact hr623 H locs ls hP hD hS hl
    have h := e574
    clear e574
    refine lv_if_ne (tgt := 593) hx hb dL_law_574 (by decide) (fun c574 => ?_) (fun c574 => ?_)
    · replace h := if_f h c574
      refine lv_iconst (v := 0) hx hb dL_law_593 (by decide) ?_
      obtain rfl := Option.some.inj h
      exact hr594 H locs ls hP hD hS hl
    replace h := if_t h c574
    refine lv_aload hx hb dL_law_577 (lv_at hl 10 rfl) ?_
    refine lv_aload hx hb dL_law_579 (lv_at hl 11 rfl) ?_
    refine lv_aload hx hb dL_law_581 (lv_at hl 12 rfl) ?_
    obtain ⟨v583, e583, h⟩ := bnd h
    refine cSp (av := [.ref a8, .ref a9, .ref a10]) (rest := []) (st1 := [.int v583]) (k1 := kc + 0) (k2 := kz + 0) (wr := wSPo x ++ wFig (fun j => x (1 + j)) cy F_552 ++ wFig (fun j => x (6 + j)) cy D_552 ++ wP2 (fun j => x (11 + j)) cy P_552 ++ wIA a5 cy 5 w5_552 ++ wIA a6 cy 40 w6_552 ++ wIA a7 cy 40 w7_552 ++ wPF (fun j => x (11 + j)) cy (p_figs P_552)) (wn := wSPo x ++ wFig (fun j => x (1 + j)) cy F_552 ++ wFig (fun j => x (6 + j)) cy D_552 ++ wP2 (fun j => x (11 + j)) cy P_552 ++ wIA a5 cy 5 w5_552 ++ wIA a6 cy 40 w6_552 ++ wIA a7 cy 40 w7_552 ++ wIA a8 cy 5 g571 ++ wIA a9 cy 40 w9_552 ++ wIA a10 cy 40 w10_552 ++ wPF (fun j => x (11 + j)) cy (p_figs P_552)) hx hb hml hown htg hN hK (c_L_broken l dC dI cy a8 a9 a10 5 40 40 g571 w9_552 w10_552  v583 e583) (g_S gw450 gw451 gw6 gw452) hdS_L_broken rfl ⟨⟨Nat.le_of_ble_eq_true rfl, Nat.le_of_ble_eq_true rfl⟩, (by show kc + 0 + 0 ≤ 600104; omega), (by show kz + 0 + 0 ≤ 7301314; omega)⟩ hP hD hS hA (perm_N (perm_ix 19 [16, 17, 18] [0, 1, 2, 3, 4, 5, 6, 7, 8, 9, 10, 11, 12, 13, 14, 15] rfl rfl rfl (by decide))) (perm_Nb (perm_ix 19 [0, 1, 2, 3, 4, 5, 6, 7, 8, 9, 10, 11, 12, 13, 14, 15] [16, 17, 18] rfl rfl rfl (by decide))) hl.1 rfl (Nat.le_of_ble_eq_true rfl) rfl (by show kc + 0 + 0 = kc + 0; omega) (by show kz + 0 + 0 = kz + 0; omega) dL_law_583 (fun H locs hP hD hS => ?_)
    refine lv_if_ne (tgt := 593) hx hb dL_law_586 (by decide) (fun c586 => ?_) (fun c586 => ?_)
    · replace h := if_f h c586
      refine lv_iconst (v := 0) hx hb dL_law_593 (by decide) ?_
      obtain rfl := Option.some.inj h
      exact hr594 H locs ls hP hD hS hl
    replace h := if_t h c586
    refine lv_iconst (v := 1) hx hb dL_law_589 (by decide) ?_
    refine lv_goto (tgt := 594) hx hb dL_law_590 (by decide) ?_
    obtain rfl := Option.some.inj h
    exact hr594 H locs ls hP hD hS hl
  have h := e562
  clear e562
  refine lv_if_eq (tgt := 569) hx hb dL_law_562 (by decide) (fun c562 => ?_) (fun c562 => ?_)
  · replace h := if_t h c562
    refine lv_iconst (v := 1) hx hb dL_law_569 (by decide) ?_
    obtain rfl := Option.some.inj h
    exact hr570 H locs ls hP hD hS hl
  replace h := if_f h c562
  refine lv_iconst (v := 0) hx hb dL_law_565 (by decide) ?_
  refine lv_goto (tgt := 570) hx hb dL_law_566 (by decide) ?_
  obtain rfl := Option.some.inj h
  exact hr570 H locs ls hP hD hS hl
