set_option maxHeartbeats 8000000 in
set_option maxRecDepth 100000 in
theorem law_j467 {p : Program} {l : Launch} {e : Env} {s : State} {mm : MethodId} {below : List Frame} {meth : Method} {cd : Code} {dC : Nat → ClassId} {dI : Nat → Nat → Nat} {cy : Nat → ClassId} {b L : Nat} {xs : Nat → Int32} (C0 : lw_At p s mm meth cd b L xs) (hlt : l.stackTraces = false) (hN : NW s) (hNC : NC s) (hX0 : EX (lwA s) s s.heap) (hK : va_K (dC, dI) vwCl (TY cy) s) {x : Nat → Nat} {a5 a6 a7 a8 a9 a10 : Nat} {R : Fig → Fig → PastS → (Nat → Int32) → (Nat → Int32) → (Nat → Int32) → (Nat → Int32) → (Nat → Int32) → (Nat → Int32) → Int32 → Option (Int32)} {kc kz : Nat} (hkc : kc + 3 ≤ 600104) (hkz : kz + 18 ≤ 7301314) (ih : LK p l e s mm below meth cd dC dI cy b x a5 a6 a7 a8 a9 a10 R (kc + 3) (kz + 18)) : ∀ (F_467 : Fig) (D_467 : Fig) (P_467 : PastS) (w5_467 : Nat → Int32) (w6_467 : Nat → Int32) (w7_467 : Nat → Int32) (w8_467 : Nat → Int32) (w9_467 : Nat → Int32) (w10_467 : Nat → Int32) (l9_467 : Int32) (l8_467 : Int32) (H : Heap) (locs : List Loc) (ls : Array Slot), G_L_law_j467 R L xs F_467 D_467 P_467 w5_467 w6_467 w7_467 w8_467 w9_467 w10_467 l9_467 l8_467 = some 1 → va_P (dC, dI) vwCl (wSPo x ++ wFig (fun j => x (1 + j)) cy F_467 ++ wFig (fun j => x (6 + j)) cy D_467 ++ wP2 (fun j => x (11 + j)) cy P_467 ++ wIA a5 cy 5 w5_467 ++ wIA a6 cy 40 w6_467 ++ wIA a7 cy 40 w7_467 ++ wIA a8 cy 5 w8_467 ++ wIA a9 cy 40 w9_467 ++ wIA a10 cy 40 w10_467 ++ wPF (fun j => x (11 + j)) cy (p_figs P_467)) H → va_D (lwA s) (wSPo x ++ wFig (fun j => x (1 + j)) cy F_467 ++ wFig (fun j => x (6 + j)) cy D_467 ++ wP2 (fun j => x (11 + j)) cy P_467 ++ wIA a5 cy 5 w5_467 ++ wIA a6 cy 40 w6_467 ++ wIA a7 cy 40 w7_467 ++ wIA a8 cy 5 w8_467 ++ wIA a9 cy 40 w9_467 ++ wIA a10 cy 40 w10_467 ++ wPF (fun j => x (11 + j)) cy (p_figs P_467)) → va_S (lwA s) s.heap H locs → lv_has ls 18 [(9, .int l9_467), (8, .int l8_467), (0, .ref b), (1, .ref (x 0)), (2, .ref a5), (3, .ref a6), (4, .ref a7), (5, .ref a8), (6, .ref a9), (7, .ref a10)] → W p l e room_1 s mm #[Value.ref b] below meth cd H locs (kc + 2) (kz + 12) (lw_Z below #[Value.ref b] s) (F0 mm 467 ls []) := by
  have C1 := C0
  obtain ⟨hx, hb, hr, hml, hown, hts, hXs, hbl, hlocks, hgv⟩ := C0
  have htg : ∀ w ∈ GW, w.before #[Value.ref b] s = true := fun w hw => hts w (List.mem_filter.mp hw).1
  have hA : ∀ q : Nat, s.heap.size ≤ q → lwA s q := fun _ h => h
  have hbA : ¬ lwA s b := Nat.not_le.mpr hbl
  intro F_467 D_467 P_467 w5_467 w6_467 w7_467 w8_467 w9_467 w10_467 l9_467 l8_467 H locs ls h hP hD hS hl
  unfold G_L_law_j467 at h
  refine lv_goto (tgt := 805) hx hb dL_law_467 (by decide) ?_
  refine W.widen (k := kc + 3) (n := kz + 18) (by omega) (by omega) ?_
  exact (law_j805 C1 hlt hN hNC hX0 hK hkc hkz ih) F_467 D_467 P_467 w5_467 w6_467 w7_467 w8_467 w9_467 w10_467 l9_467 l8_467 H locs ls h hP hD hS (lv_sub hl [0, 1, 2, 3, 4, 5, 6, 7, 8, 9] rfl)
set_option maxHeartbeats 8000000 in
set_option maxRecDepth 100000 in
theorem law_j389 {p : Program} {l : Launch} {e : Env} {s : State} {mm : MethodId} {below : List Frame} {meth : Method} {cd : Code} {dC : Nat → ClassId} {dI : Nat → Nat → Nat} {cy : Nat → ClassId} {b L : Nat} {xs : Nat → Int32} (C0 : lw_At p s mm meth cd b L xs) (hlt : l.stackTraces = false) (hN : NW s) (hNC : NC s) (hX0 : EX (lwA s) s s.heap) (hK : va_K (dC, dI) vwCl (TY cy) s) {x : Nat → Nat} {a5 a6 a7 a8 a9 a10 : Nat} {R : Fig → Fig → PastS → (Nat → Int32) → (Nat → Int32) → (Nat → Int32) → (Nat → Int32) → (Nat → Int32) → (Nat → Int32) → Int32 → Option (Int32)} {kc kz : Nat} (hkc : kc + 3 ≤ 600104) (hkz : kz + 18 ≤ 7301314) (ih : LK p l e s mm below meth cd dC dI cy b x a5 a6 a7 a8 a9 a10 R (kc + 3) (kz + 18)) : ∀ (F_389 : Fig) (D_389 : Fig) (P_389 : PastS) (w5_389 : Nat → Int32) (w6_389 : Nat → Int32) (w7_389 : Nat → Int32) (w8_389 : Nat → Int32) (w9_389 : Nat → Int32) (w10_389 : Nat → Int32) (l16_389 : Int32) (l14_389 : Int32) (l13_389 : Int32) (l12_389 : Int32) (l11_389 : Int32) (l9_389 : Int32) (l8_389 : Int32) (H : Heap) (locs : List Loc) (ls : Array Slot), G_L_law_j389 R L xs F_389 D_389 P_389 w5_389 w6_389 w7_389 w8_389 w9_389 w10_389 l16_389 l14_389 l13_389 l12_389 l11_389 l9_389 l8_389 = some 1 → va_P (dC, dI) vwCl (wSPo x ++ wFig (fun j => x (1 + j)) cy F_389 ++ wFig (fun j => x (6 + j)) cy D_389 ++ wP2 (fun j => x (11 + j)) cy P_389 ++ wIA a5 cy 5 w5_389 ++ wIA a6 cy 40 w6_389 ++ wIA a7 cy 40 w7_389 ++ wIA a8 cy 5 w8_389 ++ wIA a9 cy 40 w9_389 ++ wIA a10 cy 40 w10_389 ++ wPF (fun j => x (11 + j)) cy (p_figs P_389)) H → va_D (lwA s) (wSPo x ++ wFig (fun j => x (1 + j)) cy F_389 ++ wFig (fun j => x (6 + j)) cy D_389 ++ wP2 (fun j => x (11 + j)) cy P_389 ++ wIA a5 cy 5 w5_389 ++ wIA a6 cy 40 w6_389 ++ wIA a7 cy 40 w7_389 ++ wIA a8 cy 5 w8_389 ++ wIA a9 cy 40 w9_389 ++ wIA a10 cy 40 w10_389 ++ wPF (fun j => x (11 + j)) cy (p_figs P_389)) → va_S (lwA s) s.heap H locs → lv_has ls 18 [(16, .int l16_389), (14, .int l14_389), (13, .int l13_389), (12, .int l12_389), (11, .int l11_389), (9, .int l9_389), (8, .int l8_389), (0, .ref b), (1, .ref (x 0)), (2, .ref a5), (3, .ref a6), (4, .ref a7), (5, .ref a8), (6, .ref a9), (7, .ref a10)] → W p l e room_1 s mm #[Value.ref b] below meth cd H locs (kc + 0) (kz + 0) (lw_Z below #[Value.ref b] s) (F0 mm 389 ls []) := by
  have C1 := C0
  obtain ⟨hx, hb, hr, hml, hown, hts, hXs, hbl, hlocks, hgv⟩ := C0
  have htg : ∀ w ∈ GW, w.before #[Value.ref b] s = true := fun w hw => hts w (List.mem_filter.mp hw).1
  have hA : ∀ q : Nat, s.heap.size ≤ q → lwA s q := fun _ h => h
  have hbA : ¬ lwA s b := Nat.not_le.mpr hbl
  intro F_389 D_389 P_389 w5_389 w6_389 w7_389 w8_389 w9_389 w10_389 l16_389 l14_389 l13_389 l12_389 l11_389 l9_389 l8_389 H locs ls h hP hD hS hl
  unfold G_L_law_j389 at h
  refine lv_iload hx hb dL_law_389 (lv_at hl 0 rfl) ?_
  obtain ⟨b391, e391, h⟩ := bnd h
  have hr411 : ∀ (H : Heap) (locs : List Loc) (ls : Array Slot), va_P (dC, dI) vwCl (wSPo x ++ wFig (fun j => x (1 + j)) cy F_389 ++ wFig (fun j => x (6 + j)) cy D_389 ++ wP2 (fun j => x (11 + j)) cy P_389 ++ wIA a5 cy 5 w5_389 ++ wIA a6 cy 40 w6_389 ++ wIA a7 cy 40 w7_389 ++ wIA a8 cy 5 w8_389 ++ wIA a9 cy 40 w9_389 ++ wIA a10 cy 40 w10_389 ++ wPF (fun j => x (11 + j)) cy (p_figs P_389)) H → va_D (lwA s) (wSPo x ++ wFig (fun j => x (1 + j)) cy F_389 ++ wFig (fun j => x (6 + j)) cy D_389 ++ wP2 (fun j => x (11 + j)) cy P_389 ++ wIA a5 cy 5 w5_389 ++ wIA a6 cy 40 w6_389 ++ wIA a7 cy 40 w7_389 ++ wIA a8 cy 5 w8_389 ++ wIA a9 cy 40 w9_389 ++ wIA a10 cy 40 w10_389 ++ wPF (fun j => x (11 + j)) cy (p_figs P_389)) → va_S (lwA s) s.heap H locs → lv_has ls 18 [(16, .int l16_389), (14, .int l14_389), (13, .int l13_389), (12, .int l12_389), (11, .int l11_389), (9, .int l9_389), (8, .int l8_389), (0, .ref b), (1, .ref (x 0)), (2, .ref a5), (3, .ref a6), (4, .ref a7), (5, .ref a8), (6, .ref a9), (7, .ref a10)] → W p l e room_1 s mm #[Value.ref b] below meth cd H locs (kc + 0) (kz + 0) (lw_Z below #[Value.ref b] s) (F0 mm 411 ls [.int b391]) := by
    intro H locs ls hP hD hS hl
    refine lv_istore (lv' := [(17, .int b391), (16, .int l16_389), (14, .int l14_389), (13, .int l13_389), (12, .int l12_389), (11, .int l11_389), (9, .int l9_389), (8, .int l8_389), (0, .ref b), (1, .ref (x 0)), (2, .ref a5), (3, .ref a6), (4, .ref a7), (5, .ref a8), (6, .ref a9), (7, .ref a10)]) hx hb dL_law_411 hl (by decide) rfl (fun ls hl => ?_)
    refine lv_aload_n hx hb dL_law_413 rfl (lv_at hl 9 rfl) ?_
    refine lv_iload hx hb dL_law_414 (lv_at hl 5 rfl) ?_
    refine lv_iload hx hb dL_law_416 (lv_at hl 4 rfl) ?_
    refine lv_iload hx hb dL_law_418 (lv_at hl 3 rfl) ?_
    refine lv_iload hx hb dL_law_420 (lv_at hl 2 rfl) ?_
    obtain ⟨v422, e422, h⟩ := bnd h
    refine cLWp (av := [.ref (x 0), .int l11_389, .int l12_389, .int l13_389, .int l14_389]) (rest := []) (st1 := [.int v422.1]) (k1 := kc + 2) (k2 := kz + 12) (wr := wIA a5 cy 5 w5_389 ++ wIA a6 cy 40 w6_389 ++ wIA a7 cy 40 w7_389 ++ wIA a8 cy 5 w8_389 ++ wIA a9 cy 40 w9_389 ++ wIA a10 cy 40 w10_389) (wn := wSPo x ++ wFig (fun j => x (1 + j)) cy v422.2.1 ++ wFig (fun j => x (6 + j)) cy v422.2.2.1 ++ wP2 (fun j => x (11 + j)) cy v422.2.2.2 ++ wIA a5 cy 5 w5_389 ++ wIA a6 cy 40 w6_389 ++ wIA a7 cy 40 w7_389 ++ wIA a8 cy 5 w8_389 ++ wIA a9 cy 40 w9_389 ++ wIA a10 cy 40 w10_389 ++ wPF (fun j => x (11 + j)) cy (p_figs v422.2.2.2)) hx hb hml hown htg hN hK hX0 hNC (c_L_insert l dC dI cy hlt x F_389 D_389 P_389 l11_389 l12_389 l13_389 l14_389 v422 e422) ⟨gw385, gw386, gw6, cw_insert⟩ hdS_L_insert rfl ⟨⟨Nat.le_of_ble_eq_true rfl, Nat.le_of_ble_eq_true rfl⟩, (by show kc + 0 + 2 ≤ 600104; omega), (by show kz + 0 + 12 ≤ 7301314; omega)⟩ hP hD hS hA (perm_T (perm_ix 19 [0, 1, 2, 3, 4, 5, 6, 7, 8, 9, 10, 11, 12] [13, 14, 15, 16, 17, 18] rfl rfl rfl (by decide))) (perm_Tb (perm_ix 19 [13, 14, 15, 16, 17, 18] [0, 1, 2, 3, 4, 5, 6, 7, 8, 9, 10, 11, 12] rfl rfl rfl (by decide))) hl.1 rfl (Nat.le_of_ble_eq_true rfl) rfl (by show kc + 0 + 2 = kc + 2; omega) (by show kz + 0 + 12 = kz + 12; omega) dL_law_422 (fun H locs hP hD hS => ?_)
    refine lv_iload hx hb dL_law_425 (lv_at hl 0 rfl) ?_
    obtain ⟨b427, e427, h⟩ := bnd h
    have hr444 : ∀ (H : Heap) (locs : List Loc) (ls : Array Slot), va_P (dC, dI) vwCl (wSPo x ++ wFig (fun j => x (1 + j)) cy v422.2.1 ++ wFig (fun j => x (6 + j)) cy v422.2.2.1 ++ wP2 (fun j => x (11 + j)) cy v422.2.2.2 ++ wIA a5 cy 5 w5_389 ++ wIA a6 cy 40 w6_389 ++ wIA a7 cy 40 w7_389 ++ wIA a8 cy 5 w8_389 ++ wIA a9 cy 40 w9_389 ++ wIA a10 cy 40 w10_389 ++ wPF (fun j => x (11 + j)) cy (p_figs v422.2.2.2)) H → va_D (lwA s) (wSPo x ++ wFig (fun j => x (1 + j)) cy v422.2.1 ++ wFig (fun j => x (6 + j)) cy v422.2.2.1 ++ wP2 (fun j => x (11 + j)) cy v422.2.2.2 ++ wIA a5 cy 5 w5_389 ++ wIA a6 cy 40 w6_389 ++ wIA a7 cy 40 w7_389 ++ wIA a8 cy 5 w8_389 ++ wIA a9 cy 40 w9_389 ++ wIA a10 cy 40 w10_389 ++ wPF (fun j => x (11 + j)) cy (p_figs v422.2.2.2)) → va_S (lwA s) s.heap H locs → lv_has ls 18 [(17, .int b391), (16, .int l16_389), (14, .int l14_389), (13, .int l13_389), (12, .int l12_389), (11, .int l11_389), (9, .int l9_389), (8, .int l8_389), (0, .ref b), (1, .ref (x 0)), (2, .ref a5), (3, .ref a6), (4, .ref a7), (5, .ref a8), (6, .ref a9), (7, .ref a10)] → W p l e room_1 s mm #[Value.ref b] below meth cd H locs (kc + 2) (kz + 12) (lw_Z below #[Value.ref b] s) (F0 mm 444 ls [.int b427, .int v422.1]) := by
      intro H locs ls hP hD hS hl
      refine lv_icmp_eq (tgt := 449) hx hb dL_law_444 (by decide) (fun c444 => ?_) (fun c444 => ?_)
      · replace h := if_t h c444
        refine lv_iload hx hb dL_law_449 (lv_at hl 0 rfl) ?_
        refine lv_if_eq (tgt := 467) hx hb dL_law_451 (by decide) (fun c451 => ?_) (fun c451 => ?_)
        · replace h := if_t h c451
          exact (law_j467 C1 hlt hN hNC hX0 hK hkc hkz ih) v422.2.1 v422.2.2.1 v422.2.2.2 w5_389 w6_389 w7_389 w8_389 w9_389 w10_389 l9_389 l8_389 H locs ls h hP hD hS (lv_sub hl [6, 7, 8, 9, 10, 11, 12, 13, 14, 15] rfl)
        replace h := if_f h c451
        refine lv_aload hx hb dL_law_454 (lv_at hl 13 rfl) ?_
        refine lv_aload hx hb dL_law_456 (lv_at hl 14 rfl) ?_
        refine lv_aload hx hb dL_law_458 (lv_at hl 15 rfl) ?_
        refine lv_aload_n hx hb dL_law_460 rfl (lv_at hl 10 rfl) ?_
        refine lv_aload_n hx hb dL_law_461 rfl (lv_at hl 11 rfl) ?_
        refine lv_aload hx hb dL_law_462 (lv_at hl 12 rfl) ?_
        obtain ⟨v464, e464, h⟩ := bnd h
        refine cSp (av := [.ref a8, .ref a9, .ref a10, .ref a5, .ref a6, .ref a7]) (rest := []) (st1 := []) (k1 := kc + 2) (k2 := kz + 12) (wr := wSPo x ++ wFig (fun j => x (1 + j)) cy v422.2.1 ++ wFig (fun j => x (6 + j)) cy v422.2.2.1 ++ wP2 (fun j => x (11 + j)) cy v422.2.2.2 ++ wPF (fun j => x (11 + j)) cy (p_figs v422.2.2.2)) (wn := wSPo x ++ wFig (fun j => x (1 + j)) cy v422.2.1 ++ wFig (fun j => x (6 + j)) cy v422.2.2.1 ++ wP2 (fun j => x (11 + j)) cy v422.2.2.2 ++ wIA a5 cy 5 v464.1 ++ wIA a6 cy 40 v464.2.1 ++ wIA a7 cy 40 v464.2.2 ++ wIA a8 cy 5 w8_389 ++ wIA a9 cy 40 w9_389 ++ wIA a10 cy 40 w10_389 ++ wPF (fun j => x (11 + j)) cy (p_figs v422.2.2.2)) hx hb hml hown htg hN hK (c_L_copy l dC dI cy a8 a9 a10 a5 a6 a7 5 40 40 5 40 40 w8_389 w9_389 w10_389 w5_389 w6_389 w7_389  v464 e464) (g_S gw603 gw604 gw6 gw605) hdS_L_copy rfl ⟨⟨Nat.le_of_ble_eq_true rfl, Nat.le_of_ble_eq_true rfl⟩, (by show kc + 2 + 0 ≤ 600104; omega), (by show kz + 12 + 0 ≤ 7301314; omega)⟩ hP hD hS hA (perm_N (perm_ix 19 [16, 17, 18, 13, 14, 15] [0, 1, 2, 3, 4, 5, 6, 7, 8, 9, 10, 11, 12] rfl rfl rfl (by decide))) (perm_Nb (perm_ix 19 [0, 1, 2, 3, 4, 5, 6, 7, 8, 9, 10, 11, 12] [16, 17, 18, 13, 14, 15] rfl rfl rfl (by decide))) hl.1 rfl (Nat.le_of_ble_eq_true rfl) rfl (by show kc + 2 + 0 = kc + 2; omega) (by show kz + 12 + 0 = kz + 12; omega) dL_law_464 (fun H locs hP hD hS => ?_)
        exact (law_j467 C1 hlt hN hNC hX0 hK hkc hkz ih) v422.2.1 v422.2.2.1 v422.2.2.2 v464.1 v464.2.1 v464.2.2 w8_389 w9_389 w10_389 l9_389 l8_389 H locs ls h hP hD hS (lv_sub hl [6, 7, 8, 9, 10, 11, 12, 13, 14, 15] rfl)
      replace h := if_f h c444
      refine lv_iconst (v := 0) hx hb dL_law_447 (by decide) ?_
      exact absurd (Option.some.inj h) (by decide)
    have h := e427
    clear e427
    refine lv_if_eq (tgt := 442) hx hb dL_law_427 (by decide) (fun c427 => ?_) (fun c427 => ?_)
    · replace h := if_t h c427
      refine lv_bipush (v := (-2)) hx hb dL_law_442 (by decide) ?_
      obtain rfl := Option.some.inj h
      exact hr444 H locs ls hP hD hS hl
    replace h := if_f h c427
    refine lv_aload hx hb dL_law_430 (lv_at hl 13 rfl) ?_
    refine lv_aload hx hb dL_law_432 (lv_at hl 14 rfl) ?_
    refine lv_aload hx hb dL_law_434 (lv_at hl 15 rfl) ?_
    obtain ⟨v436, e436, h⟩ := bnd h
    refine cSp (av := [.ref a8, .ref a9, .ref a10]) (rest := [.int v422.1]) (st1 := [.int v436, .int v422.1]) (k1 := kc + 2) (k2 := kz + 12) (wr := wSPo x ++ wFig (fun j => x (1 + j)) cy v422.2.1 ++ wFig (fun j => x (6 + j)) cy v422.2.2.1 ++ wP2 (fun j => x (11 + j)) cy v422.2.2.2 ++ wIA a5 cy 5 w5_389 ++ wIA a6 cy 40 w6_389 ++ wIA a7 cy 40 w7_389 ++ wPF (fun j => x (11 + j)) cy (p_figs v422.2.2.2)) (wn := wSPo x ++ wFig (fun j => x (1 + j)) cy v422.2.1 ++ wFig (fun j => x (6 + j)) cy v422.2.2.1 ++ wP2 (fun j => x (11 + j)) cy v422.2.2.2 ++ wIA a5 cy 5 w5_389 ++ wIA a6 cy 40 w6_389 ++ wIA a7 cy 40 w7_389 ++ wIA a8 cy 5 w8_389 ++ wIA a9 cy 40 w9_389 ++ wIA a10 cy 40 w10_389 ++ wPF (fun j => x (11 + j)) cy (p_figs v422.2.2.2)) hx hb hml hown htg hN hK (c_L_area l dC dI cy a8 a9 a10 5 40 40 w8_389 w9_389 w10_389  v436 e436) (g_S gw471 gw472 gw6 gw473) hdS_L_area rfl ⟨⟨Nat.le_of_ble_eq_true rfl, Nat.le_of_ble_eq_true rfl⟩, (by show kc + 2 + 0 ≤ 600104; omega), (by show kz + 12 + 0 ≤ 7301314; omega)⟩ hP hD hS hA (perm_N (perm_ix 19 [16, 17, 18] [0, 1, 2, 3, 4, 5, 6, 7, 8, 9, 10, 11, 12, 13, 14, 15] rfl rfl rfl (by decide))) (perm_Nb (perm_ix 19 [0, 1, 2, 3, 4, 5, 6, 7, 8, 9, 10, 11, 12, 13, 14, 15] [16, 17, 18] rfl rfl rfl (by decide))) hl.1 rfl (Nat.le_of_ble_eq_true rfl) rfl (by show kc + 2 + 0 = kc + 2; omega) (by show kz + 12 + 0 = kz + 12; omega) dL_law_436 (fun H locs hP hD hS => ?_)
    refine lv_goto (tgt := 444) hx hb dL_law_439 (by decide) ?_
    obtain rfl := Option.some.inj h
    exact hr444 H locs ls hP hD hS hl
  have h := e391
  clear e391
  refine lv_if_ne (tgt := 410) hx hb dL_law_391 (by decide) (fun c391 => ?_) (fun c391 => ?_)
  · replace h := if_f h c391
    refine lv_iconst (v := 0) hx hb dL_law_410 (by decide) ?_
    obtain rfl := Option.some.inj h
    exact hr411 H locs ls hP hD hS hl
  replace h := if_t h c391
  refine lv_aload hx hb dL_law_394 (lv_at hl 12 rfl) ?_
  refine lv_aload hx hb dL_law_396 (lv_at hl 13 rfl) ?_
  refine lv_aload hx hb dL_law_398 (lv_at hl 14 rfl) ?_
  obtain ⟨v400, e400, h⟩ := bnd h
  refine cSp (av := [.ref a8, .ref a9, .ref a10]) (rest := []) (st1 := [.int v400]) (k1 := kc + 0) (k2 := kz + 0) (wr := wSPo x ++ wFig (fun j => x (1 + j)) cy F_389 ++ wFig (fun j => x (6 + j)) cy D_389 ++ wP2 (fun j => x (11 + j)) cy P_389 ++ wIA a5 cy 5 w5_389 ++ wIA a6 cy 40 w6_389 ++ wIA a7 cy 40 w7_389 ++ wPF (fun j => x (11 + j)) cy (p_figs P_389)) (wn := wSPo x ++ wFig (fun j => x (1 + j)) cy F_389 ++ wFig (fun j => x (6 + j)) cy D_389 ++ wP2 (fun j => x (11 + j)) cy P_389 ++ wIA a5 cy 5 w5_389 ++ wIA a6 cy 40 w6_389 ++ wIA a7 cy 40 w7_389 ++ wIA a8 cy 5 w8_389 ++ wIA a9 cy 40 w9_389 ++ wIA a10 cy 40 w10_389 ++ wPF (fun j => x (11 + j)) cy (p_figs P_389)) hx hb hml hown htg hN hK (c_L_broken l dC dI cy a8 a9 a10 5 40 40 w8_389 w9_389 w10_389  v400 e400) (g_S gw450 gw451 gw6 gw452) hdS_L_broken rfl ⟨⟨Nat.le_of_ble_eq_true rfl, Nat.le_of_ble_eq_true rfl⟩, (by show kc + 0 + 0 ≤ 600104; omega), (by show kz + 0 + 0 ≤ 7301314; omega)⟩ hP hD hS hA (perm_N (perm_ix 19 [16, 17, 18] [0, 1, 2, 3, 4, 5, 6, 7, 8, 9, 10, 11, 12, 13, 14, 15] rfl rfl rfl (by decide))) (perm_Nb (perm_ix 19 [0, 1, 2, 3, 4, 5, 6, 7, 8, 9, 10, 11, 12, 13, 14, 15] [16, 17, 18] rfl rfl rfl (by decide))) hl.1 rfl (Nat.le_of_ble_eq_true rfl) rfl (by show kc + 0 + 0 = kc + 0; omega) (by show kz + 0 + 0 = kz + 0; omega) dL_law_400 (fun H locs hP hD hS => ?_)
  refine lv_if_ne (tgt := 410) hx hb dL_law_403 (by decide) (fun c403 => ?_) (fun c403 => ?_)
  · replace h := if_f h c403
    refine lv_iconst (v := 0) hx hb dL_law_410 (by decide) ?_
    obtain rfl := Option.some.inj h
    exact hr411 H locs ls hP hD hS hl
  replace h := if_t h c403
  refine lv_iconst (v := 1) hx hb dL_law_406 (by decide) ?_
  refine lv_goto (tgt := 411) hx hb dL_law_407 (by decide) ?_
  obtain rfl := Option.some.inj h
  exact hr411 H locs ls hP hD hS hl
set_option maxHeartbeats 8000000 in
set_option maxRecDepth 100000 in
theorem law_j355 {p : Program} {l : Launch} {e : Env} {s : State} {mm : MethodId} {below : List Frame} {meth : Method} {cd : Code} {dC : Nat → ClassId} {dI : Nat → Nat → Nat} {cy : Nat → ClassId} {b L : Nat} {xs : Nat → Int32} (C0 : lw_At p s mm meth cd b L xs) (hlt : l.stackTraces = false) (hN : NW s) (hNC : NC s) (hX0 : EX (lwA s) s s.heap) (hK : va_K (dC, dI) vwCl (TY cy) s) {x : Nat → Nat} {a5 a6 a7 a8 a9 a10 : Nat} {R : Fig → Fig → PastS → (Nat → Int32) → (Nat → Int32) → (Nat → Int32) → (Nat → Int32) → (Nat → Int32) → (Nat → Int32) → Int32 → Option (Int32)} {kc kz : Nat} (hkc : kc + 3 ≤ 600104) (hkz : kz + 18 ≤ 7301314) (ih : LK p l e s mm below meth cd dC dI cy b x a5 a6 a7 a8 a9 a10 R (kc + 3) (kz + 18)) : ∀ (F_355 : Fig) (D_355 : Fig) (P_355 : PastS) (w5_355 : Nat → Int32) (w6_355 : Nat → Int32) (w7_355 : Nat → Int32) (w8_355 : Nat → Int32) (w9_355 : Nat → Int32) (w10_355 : Nat → Int32) (l16_355 : Int32) (l15_355 : Int32) (l14_355 : Int32) (l13_355 : Int32) (l12_355 : Int32) (l11_355 : Int32) (l9_355 : Int32) (l8_355 : Int32) (H : Heap) (locs : List Loc) (ls : Array Slot), G_L_law_j355 R L xs F_355 D_355 P_355 w5_355 w6_355 w7_355 w8_355 w9_355 w10_355 l16_355 l15_355 l14_355 l13_355 l12_355 l11_355 l9_355 l8_355 = some 1 → va_P (dC, dI) vwCl (wSPo x ++ wFig (fun j => x (1 + j)) cy F_355 ++ wFig (fun j => x (6 + j)) cy D_355 ++ wP2 (fun j => x (11 + j)) cy P_355 ++ wIA a5 cy 5 w5_355 ++ wIA a6 cy 40 w6_355 ++ wIA a7 cy 40 w7_355 ++ wIA a8 cy 5 w8_355 ++ wIA a9 cy 40 w9_355 ++ wIA a10 cy 40 w10_355 ++ wPF (fun j => x (11 + j)) cy (p_figs P_355)) H → va_D (lwA s) (wSPo x ++ wFig (fun j => x (1 + j)) cy F_355 ++ wFig (fun j => x (6 + j)) cy D_355 ++ wP2 (fun j => x (11 + j)) cy P_355 ++ wIA a5 cy 5 w5_355 ++ wIA a6 cy 40 w6_355 ++ wIA a7 cy 40 w7_355 ++ wIA a8 cy 5 w8_355 ++ wIA a9 cy 40 w9_355 ++ wIA a10 cy 40 w10_355 ++ wPF (fun j => x (11 + j)) cy (p_figs P_355)) → va_S (lwA s) s.heap H locs → lv_has ls 18 [(16, .int l16_355), (15, .int l15_355), (14, .int l14_355), (13, .int l13_355), (12, .int l12_355), (11, .int l11_355), (9, .int l9_355), (8, .int l8_355), (0, .ref b), (1, .ref (x 0)), (2, .ref a5), (3, .ref a6), (4, .ref a7), (5, .ref a8), (6, .ref a9), (7, .ref a10)] → W p l e room_1 s mm #[Value.ref b] below meth cd H locs (kc + 0) (kz + 0) (lw_Z below #[Value.ref b] s) (F0 mm 355 ls []) := by
  have C1 := C0
  obtain ⟨hx, hb, hr, hml, hown, hts, hXs, hbl, hlocks, hgv⟩ := C0
  have htg : ∀ w ∈ GW, w.before #[Value.ref b] s = true := fun w hw => hts w (List.mem_filter.mp hw).1
  have hA : ∀ q : Nat, s.heap.size ≤ q → lwA s q := fun _ h => h
  have hbA : ¬ lwA s b := Nat.not_le.mpr hbl
  intro F_355 D_355 P_355 w5_355 w6_355 w7_355 w8_355 w9_355 w10_355 l16_355 l15_355 l14_355 l13_355 l12_355 l11_355 l9_355 l8_355 H locs ls h hP hD hS hl
  unfold G_L_law_j355 at h
  refine lv_iload hx hb dL_law_355 (lv_at hl 0 rfl) ?_
  refine lv_if_ne (tgt := 389) hx hb dL_law_357 (by decide) (fun c357 => ?_) (fun c357 => ?_)
  · replace h := if_f h c357
    exact (law_j389 C1 hlt hN hNC hX0 hK hkc hkz ih) F_355 D_355 P_355 w5_355 w6_355 w7_355 w8_355 w9_355 w10_355 l16_355 l14_355 l13_355 l12_355 l11_355 l9_355 l8_355 H locs ls h hP hD hS (lv_sub hl [0, 2, 3, 4, 5, 6, 7, 8, 9, 10, 11, 12, 13, 14, 15] rfl)
  replace h := if_t h c357
  refine lv_aload hx hb dL_law_360 (lv_at hl 14 rfl) ?_
  refine lv_iload hx hb dL_law_362 (lv_at hl 1 rfl) ?_
  refine lv_iconst (v := 1) hx hb dL_law_364 (by decide) ?_
  refine lv_iadd hx hb dL_law_365 ?_
  refine lv_iload hx hb dL_law_366 (lv_at hl 3 rfl) ?_
  obtain ⟨g368, e368, h⟩ := bnd h
  refine x_iast (g := g368) hx hb hK hP hD hS 17 0 rfl rfl e368 dL_law_368 (fun H locs hP hD hS => ?_)
  have hP : va_P (dC, dI) vwCl (wSPo x ++ wFig (fun j => x (1 + j)) cy F_355 ++ wFig (fun j => x (6 + j)) cy D_355 ++ wP2 (fun j => x (11 + j)) cy P_355 ++ wIA a5 cy 5 w5_355 ++ wIA a6 cy 40 w6_355 ++ wIA a7 cy 40 w7_355 ++ wIA a8 cy 5 w8_355 ++ wIA a9 cy 40 g368 ++ wIA a10 cy 40 w10_355 ++ wPF (fun j => x (11 + j)) cy (p_figs P_355)) H := hP
  have hD : va_D (lwA s) (wSPo x ++ wFig (fun j => x (1 + j)) cy F_355 ++ wFig (fun j => x (6 + j)) cy D_355 ++ wP2 (fun j => x (11 + j)) cy P_355 ++ wIA a5 cy 5 w5_355 ++ wIA a6 cy 40 w6_355 ++ wIA a7 cy 40 w7_355 ++ wIA a8 cy 5 w8_355 ++ wIA a9 cy 40 g368 ++ wIA a10 cy 40 w10_355 ++ wPF (fun j => x (11 + j)) cy (p_figs P_355)) := hD
  refine lv_aload hx hb dL_law_369 (lv_at hl 15 rfl) ?_
  refine lv_iload hx hb dL_law_371 (lv_at hl 1 rfl) ?_
  refine lv_iconst (v := 1) hx hb dL_law_373 (by decide) ?_
  refine lv_iadd hx hb dL_law_374 ?_
  refine lv_iload hx hb dL_law_375 (lv_at hl 2 rfl) ?_
  obtain ⟨g377, e377, h⟩ := bnd h
  refine x_iast (g := g377) hx hb hK hP hD hS 18 0 rfl rfl e377 dL_law_377 (fun H locs hP hD hS => ?_)
  have hP : va_P (dC, dI) vwCl (wSPo x ++ wFig (fun j => x (1 + j)) cy F_355 ++ wFig (fun j => x (6 + j)) cy D_355 ++ wP2 (fun j => x (11 + j)) cy P_355 ++ wIA a5 cy 5 w5_355 ++ wIA a6 cy 40 w6_355 ++ wIA a7 cy 40 w7_355 ++ wIA a8 cy 5 w8_355 ++ wIA a9 cy 40 g368 ++ wIA a10 cy 40 g377 ++ wPF (fun j => x (11 + j)) cy (p_figs P_355)) H := hP
  have hD : va_D (lwA s) (wSPo x ++ wFig (fun j => x (1 + j)) cy F_355 ++ wFig (fun j => x (6 + j)) cy D_355 ++ wP2 (fun j => x (11 + j)) cy P_355 ++ wIA a5 cy 5 w5_355 ++ wIA a6 cy 40 w6_355 ++ wIA a7 cy 40 w7_355 ++ wIA a8 cy 5 w8_355 ++ wIA a9 cy 40 g368 ++ wIA a10 cy 40 g377 ++ wPF (fun j => x (11 + j)) cy (p_figs P_355)) := hD
  refine lv_aload hx hb dL_law_378 (lv_at hl 13 rfl) ?_
  refine lv_iconst (v := 1) hx hb dL_law_380 (by decide) ?_
  refine lv_iload hx hb dL_law_381 (lv_at hl 5 rfl) ?_
  refine lv_iadd hx hb dL_law_383 ?_
  refine lv_dup2_11 hx hb dL_law_384 rfl rfl ?_
  obtain ⟨v385, e385, h⟩ := bnd h
  refine x_iald (v := v385) hx hb hK hP 16 0 rfl rfl e385 dL_law_385 ?_
  refine lv_iconst (v := 1) hx hb dL_law_386 (by decide) ?_
  refine lv_iadd hx hb dL_law_387 ?_
  obtain ⟨g388, e388, h⟩ := bnd h
  refine x_iast (g := g388) hx hb hK hP hD hS 16 0 rfl rfl e388 dL_law_388 (fun H locs hP hD hS => ?_)
  have hP : va_P (dC, dI) vwCl (wSPo x ++ wFig (fun j => x (1 + j)) cy F_355 ++ wFig (fun j => x (6 + j)) cy D_355 ++ wP2 (fun j => x (11 + j)) cy P_355 ++ wIA a5 cy 5 w5_355 ++ wIA a6 cy 40 w6_355 ++ wIA a7 cy 40 w7_355 ++ wIA a8 cy 5 g388 ++ wIA a9 cy 40 g368 ++ wIA a10 cy 40 g377 ++ wPF (fun j => x (11 + j)) cy (p_figs P_355)) H := hP
  have hD : va_D (lwA s) (wSPo x ++ wFig (fun j => x (1 + j)) cy F_355 ++ wFig (fun j => x (6 + j)) cy D_355 ++ wP2 (fun j => x (11 + j)) cy P_355 ++ wIA a5 cy 5 w5_355 ++ wIA a6 cy 40 w6_355 ++ wIA a7 cy 40 w7_355 ++ wIA a8 cy 5 g388 ++ wIA a9 cy 40 g368 ++ wIA a10 cy 40 g377 ++ wPF (fun j => x (11 + j)) cy (p_figs P_355)) := hD
  exact (law_j389 C1 hlt hN hNC hX0 hK hkc hkz ih) F_355 D_355 P_355 w5_355 w6_355 w7_355 g388 g368 g377 l16_355 l14_355 l13_355 l12_355 l11_355 l9_355 l8_355 H locs ls h hP hD hS (lv_sub hl [0, 2, 3, 4, 5, 6, 7, 8, 9, 10, 11, 12, 13, 14, 15] rfl)
