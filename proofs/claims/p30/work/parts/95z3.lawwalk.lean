set_option maxHeartbeats 8000000 in
set_option maxRecDepth 100000 in
theorem law_L498 {p : Program} {l : Launch} {e : Env} {s : State} {mm : MethodId} {below : List Frame} {meth : Method} {cd : Code} {dC : Nat → ClassId} {dI : Nat → Nat → Nat} {cy : Nat → ClassId} {b L : Nat} {xs : Nat → Int32} (C0 : lw_At p s mm meth cd b L xs) (hlt : l.stackTraces = false) (hN : NW s) (hNC : NC s) (hX0 : EX (lwA s) s s.heap) (hK : va_K (dC, dI) vwCl (TY cy) s) {x : Nat → Nat} {a5 a6 a7 a8 a9 a10 : Nat} {R : Fig → Fig → PastS → (Nat → Int32) → (Nat → Int32) → (Nat → Int32) → (Nat → Int32) → (Nat → Int32) → (Nat → Int32) → Int32 → Option (Int32)} {kc kz : Nat} (hkc : kc + 3 ≤ 600104) (hkz : kz + 18 ≤ 7301314) (ih : LK p l e s mm below meth cd dC dI cy b x a5 a6 a7 a8 a9 a10 R (kc + 3) (kz + 18)) : ∀ (n498 : Nat) (F_498 : Fig) (D_498 : Fig) (P_498 : PastS) (w5_498 : Nat → Int32) (w6_498 : Nat → Int32) (w7_498 : Nat → Int32) (w8_498 : Nat → Int32) (w9_498 : Nat → Int32) (w10_498 : Nat → Int32) (l17_498 : Int32) (l16_498 : Int32) (l12_498 : Int32) (l11_498 : Int32) (l9_498 : Int32) (l8_498 : Int32) (H : Heap) (locs : List Loc) (ls : Array Slot), G_L_law_L498 R L xs n498 F_498 D_498 P_498 w5_498 w6_498 w7_498 w8_498 w9_498 w10_498 l17_498 l16_498 l12_498 l11_498 l9_498 l8_498 = some 1 → va_P (dC, dI) vwCl (wSPo x ++ wFig (fun j => x (1 + j)) cy F_498 ++ wFig (fun j => x (6 + j)) cy D_498 ++ wP2 (fun j => x (11 + j)) cy P_498 ++ wIA a5 cy 5 w5_498 ++ wIA a6 cy 40 w6_498 ++ wIA a7 cy 40 w7_498 ++ wIA a8 cy 5 w8_498 ++ wIA a9 cy 40 w9_498 ++ wIA a10 cy 40 w10_498 ++ wPF (fun j => x (11 + j)) cy (p_figs P_498)) H → va_D (lwA s) (wSPo x ++ wFig (fun j => x (1 + j)) cy F_498 ++ wFig (fun j => x (6 + j)) cy D_498 ++ wP2 (fun j => x (11 + j)) cy P_498 ++ wIA a5 cy 5 w5_498 ++ wIA a6 cy 40 w6_498 ++ wIA a7 cy 40 w7_498 ++ wIA a8 cy 5 w8_498 ++ wIA a9 cy 40 w9_498 ++ wIA a10 cy 40 w10_498 ++ wPF (fun j => x (11 + j)) cy (p_figs P_498)) → va_S (lwA s) s.heap H locs → lv_has ls 18 [(17, .int l17_498), (16, .int l16_498), (12, .int l12_498), (11, .int l11_498), (9, .int l9_498), (8, .int l8_498), (0, .ref b), (1, .ref (x 0)), (2, .ref a5), (3, .ref a6), (4, .ref a7), (5, .ref a8), (6, .ref a9), (7, .ref a10)] → W p l e room_1 s mm #[Value.ref b] below meth cd H locs (kc + 0) (kz + 0) (lw_Z below #[Value.ref b] s) (F0 mm 498 ls []) := by
  have C1 := C0
  obtain ⟨hx, hb, hr, hml, hown, hts, hXs, hbl, hlocks, hgv⟩ := C0
  have htg : ∀ w ∈ GW, w.before #[Value.ref b] s = true := fun w hw => hts w (List.mem_filter.mp hw).1
  have hA : ∀ q : Nat, s.heap.size ≤ q → lwA s q := fun _ h => h
  have hbA : ¬ lwA s b := Nat.not_le.mpr hbl
  intro n498
  induction n498 with
  | zero => intro F_498 D_498 P_498 w5_498 w6_498 w7_498 w8_498 w9_498 w10_498 l17_498 l16_498 l12_498 l11_498 l9_498 l8_498 H locs ls h; exact absurd h (by simp [G_L_law_L498])
  | succ n498 ih498 =>
    intro F_498 D_498 P_498 w5_498 w6_498 w7_498 w8_498 w9_498 w10_498 l17_498 l16_498 l12_498 l11_498 l9_498 l8_498 H locs ls h hP hD hS hl
    rw [G_L_law_L498] at h
    refine lv_iload hx hb dL_law_498 (lv_at hl 0 rfl) ?_
    refine lv_iconst (v := 1) hx hb dL_law_500 (by decide) ?_
    refine lv_iadd hx hb dL_law_501 ?_
    refine lv_bipush (v := 10) hx hb dL_law_502 (by decide) ?_
    refine lv_iload hx hb dL_law_504 (lv_at hl 3 rfl) ?_
    refine lv_imul hx hb dL_law_506 ?_
    refine lv_aload_n hx hb dL_law_507 rfl (lv_at hl 8 rfl) ?_
    refine lv_iconst (v := 1) hx hb dL_law_508 (by decide) ?_
    refine lv_iload hx hb dL_law_509 (lv_at hl 3 rfl) ?_
    refine lv_iadd hx hb dL_law_511 ?_
    obtain ⟨v512, e512, h⟩ := bnd h
    refine x_iald (v := v512) hx hb hK hP 13 0 rfl rfl e512 dL_law_512 ?_
    refine lv_iadd hx hb dL_law_513 ?_
    refine lv_icmp_ge (tgt := 552) hx hb dL_law_514 (by decide) (fun c514 => ?_) (fun c514 => ?_)
    · replace h := if_t h c514
      exact (law_j552 C1 hlt hN hNC hX0 hK hkc hkz ih) F_498 D_498 P_498 w5_498 w6_498 w7_498 w8_498 w9_498 w10_498 l16_498 l12_498 l11_498 l9_498 l8_498 H locs ls h hP hD hS (lv_sub hl [1, 2, 3, 4, 5, 6, 7, 8, 9, 10, 11, 12, 13] rfl)
    replace h := if_f h c514
    refine lv_iload hx hb dL_law_517 (lv_at hl 1 rfl) ?_
    refine lv_if_ne (tgt := 552) hx hb dL_law_519 (by decide) (fun c519 => ?_) (fun c519 => ?_)
    · replace h := if_f h c519
      exact (law_j552 C1 hlt hN hNC hX0 hK hkc hkz ih) F_498 D_498 P_498 w5_498 w6_498 w7_498 w8_498 w9_498 w10_498 l16_498 l12_498 l11_498 l9_498 l8_498 H locs ls h hP hD hS (lv_sub hl [1, 2, 3, 4, 5, 6, 7, 8, 9, 10, 11, 12, 13] rfl)
    replace h := if_t h c519
    refine lv_aload hx hb dL_law_522 (lv_at hl 12 rfl) ?_
    refine lv_iload hx hb dL_law_524 (lv_at hl 0 rfl) ?_
    refine lv_aload hx hb dL_law_526 (lv_at hl 12 rfl) ?_
    refine lv_iload hx hb dL_law_528 (lv_at hl 0 rfl) ?_
    refine lv_iconst (v := 1) hx hb dL_law_530 (by decide) ?_
    refine lv_iadd hx hb dL_law_531 ?_
    obtain ⟨v532, e532, h⟩ := bnd h
    refine x_iald (v := v532) hx hb hK hP 17 0 rfl rfl e532 dL_law_532 ?_
    obtain ⟨g533, e533, h⟩ := bnd h
    refine x_iast (g := g533) hx hb hK hP hD hS 17 0 rfl rfl e533 dL_law_533 (fun H locs hP hD hS => ?_)
    have hP : va_P (dC, dI) vwCl (wSPo x ++ wFig (fun j => x (1 + j)) cy F_498 ++ wFig (fun j => x (6 + j)) cy D_498 ++ wP2 (fun j => x (11 + j)) cy P_498 ++ wIA a5 cy 5 w5_498 ++ wIA a6 cy 40 w6_498 ++ wIA a7 cy 40 w7_498 ++ wIA a8 cy 5 w8_498 ++ wIA a9 cy 40 g533 ++ wIA a10 cy 40 w10_498 ++ wPF (fun j => x (11 + j)) cy (p_figs P_498)) H := hP
    have hD : va_D (lwA s) (wSPo x ++ wFig (fun j => x (1 + j)) cy F_498 ++ wFig (fun j => x (6 + j)) cy D_498 ++ wP2 (fun j => x (11 + j)) cy P_498 ++ wIA a5 cy 5 w5_498 ++ wIA a6 cy 40 w6_498 ++ wIA a7 cy 40 w7_498 ++ wIA a8 cy 5 w8_498 ++ wIA a9 cy 40 g533 ++ wIA a10 cy 40 w10_498 ++ wPF (fun j => x (11 + j)) cy (p_figs P_498)) := hD
    refine lv_aload hx hb dL_law_534 (lv_at hl 13 rfl) ?_
    refine lv_iload hx hb dL_law_536 (lv_at hl 0 rfl) ?_
    refine lv_aload hx hb dL_law_538 (lv_at hl 13 rfl) ?_
    refine lv_iload hx hb dL_law_540 (lv_at hl 0 rfl) ?_
    refine lv_iconst (v := 1) hx hb dL_law_542 (by decide) ?_
    refine lv_iadd hx hb dL_law_543 ?_
    obtain ⟨v544, e544, h⟩ := bnd h
    refine x_iald (v := v544) hx hb hK hP 18 0 rfl rfl e544 dL_law_544 ?_
    obtain ⟨g545, e545, h⟩ := bnd h
    refine x_iast (g := g545) hx hb hK hP hD hS 18 0 rfl rfl e545 dL_law_545 (fun H locs hP hD hS => ?_)
    have hP : va_P (dC, dI) vwCl (wSPo x ++ wFig (fun j => x (1 + j)) cy F_498 ++ wFig (fun j => x (6 + j)) cy D_498 ++ wP2 (fun j => x (11 + j)) cy P_498 ++ wIA a5 cy 5 w5_498 ++ wIA a6 cy 40 w6_498 ++ wIA a7 cy 40 w7_498 ++ wIA a8 cy 5 w8_498 ++ wIA a9 cy 40 g533 ++ wIA a10 cy 40 g545 ++ wPF (fun j => x (11 + j)) cy (p_figs P_498)) H := hP
    have hD : va_D (lwA s) (wSPo x ++ wFig (fun j => x (1 + j)) cy F_498 ++ wFig (fun j => x (6 + j)) cy D_498 ++ wP2 (fun j => x (11 + j)) cy P_498 ++ wIA a5 cy 5 w5_498 ++ wIA a6 cy 40 w6_498 ++ wIA a7 cy 40 w7_498 ++ wIA a8 cy 5 w8_498 ++ wIA a9 cy 40 g533 ++ wIA a10 cy 40 g545 ++ wPF (fun j => x (11 + j)) cy (p_figs P_498)) := hD
    refine lv_iinc (v := l17_498 + 1) (lv' := [(17, .int (l17_498 + 1)), (16, .int l16_498), (12, .int l12_498), (11, .int l11_498), (9, .int l9_498), (8, .int l8_498), (0, .ref b), (1, .ref (x 0)), (2, .ref a5), (3, .ref a6), (4, .ref a7), (5, .ref a8), (6, .ref a9), (7, .ref a10)]) hx hb dL_law_546 hl (k := 0) rfl rfl (by decide) rfl (fun ls hl => ?_)
    refine lv_goto (tgt := 498) hx hb dL_law_549 (by decide) ?_
    exact ih498 F_498 D_498 P_498 w5_498 w6_498 w7_498 w8_498 g533 g545 (l17_498 + 1) l16_498 l12_498 l11_498 l9_498 l8_498 H locs ls h hP hD hS (lv_sub hl [0, 1, 2, 3, 4, 5, 6, 7, 8, 9, 10, 11, 12, 13] rfl)
