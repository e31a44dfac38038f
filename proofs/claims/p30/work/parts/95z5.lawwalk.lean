set_option maxHeartbeats 8000000 in
set_option maxRecDepth 100000 in
theorem law_L311 {p : Program} {l : Launch} {e : Env} {s : State} {mm : MethodId} {below : List Frame} {meth : Method} {cd : Code} {dC : Nat → ClassId} {dI : Nat → Nat → Nat} {cy : Nat → ClassId} {b L : Nat} {xs : Nat → Int32} (C0 : lw_At p s mm meth cd b L xs) (hlt : l.stackTraces = false) (hN : NW s) (hNC : NC s) (hX0 : EX (lwA s) s s.heap) (hK : va_K (dC, dI) vwCl (TY cy) s) {x : Nat → Nat} {a5 a6 a7 a8 a9 a10 : Nat} {R : Fig → Fig → PastS → (Nat → Int32) → (Nat → Int32) → (Nat → Int32) → (Nat → Int32) → (Nat → Int32) → (Nat → Int32) → Int32 → Option (Int32)} {kc kz : Nat} (hkc : kc + 3 ≤ 600104) (hkz : kz + 18 ≤ 7301314) (ih : LK p l e s mm below meth cd dC dI cy b x a5 a6 a7 a8 a9 a10 R (kc + 3) (kz + 18)) : ∀ (n311 : Nat) (F_311 : Fig) (D_311 : Fig) (P_311 : PastS) (w5_311 : Nat → Int32) (w6_311 : Nat → Int32) (w7_311 : Nat → Int32) (w8_311 : Nat → Int32) (w9_311 : Nat → Int32) (w10_311 : Nat → Int32) (l17_311 : Int32) (l16_311 : Int32) (l15_311 : Int32) (l14_311 : Int32) (l13_311 : Int32) (l12_311 : Int32) (l11_311 : Int32) (l9_311 : Int32) (l8_311 : Int32) (H : Heap) (locs : List Loc) (ls : Array Slot), G_L_law_L311 R L xs n311 F_311 D_311 P_311 w5_311 w6_311 w7_311 w8_311 w9_311 w10_311 l17_311 l16_311 l15_311 l14_311 l13_311 l12_311 l11_311 l9_311 l8_311 = some 1 → va_P (dC, dI) vwCl (wSPo x ++ wFig (fun j => x (1 + j)) cy F_311 ++ wFig (fun j => x (6 + j)) cy D_311 ++ wP2 (fun j => x (11 + j)) cy P_311 ++ wIA a5 cy 5 w5_311 ++ wIA a6 cy 40 w6_311 ++ wIA a7 cy 40 w7_311 ++ wIA a8 cy 5 w8_311 ++ wIA a9 cy 40 w9_311 ++ wIA a10 cy 40 w10_311 ++ wPF (fun j => x (11 + j)) cy (p_figs P_311)) H → va_D (lwA s) (wSPo x ++ wFig (fun j => x (1 + j)) cy F_311 ++ wFig (fun j => x (6 + j)) cy D_311 ++ wP2 (fun j => x (11 + j)) cy P_311 ++ wIA a5 cy 5 w5_311 ++ wIA a6 cy 40 w6_311 ++ wIA a7 cy 40 w7_311 ++ wIA a8 cy 5 w8_311 ++ wIA a9 cy 40 w9_311 ++ wIA a10 cy 40 w10_311 ++ wPF (fun j => x (11 + j)) cy (p_figs P_311)) → va_S (lwA s) s.heap H locs → lv_has ls 18 [(17, .int l17_311), (16, .int l16_311), (15, .int l15_311), (14, .int l14_311), (13, .int l13_311), (12, .int l12_311), (11, .int l11_311), (9, .int l9_311), (8, .int l8_311), (0, .ref b), (1, .ref (x 0)), (2, .ref a5), (3, .ref a6), (4, .ref a7), (5, .ref a8), (6, .ref a9), (7, .ref a10)] → W p l e room_1 s mm #[Value.ref b] below meth cd H locs (kc + 0) (kz + 0) (lw_Z below #[Value.ref b] s) (F0 mm 311 ls []) := by
  have C1 := C0
  obtain ⟨hx, hb, hr, hml, hown, hts, hXs, hbl, hlocks, hgv⟩ := C0
  have htg : ∀ w ∈ GW, w.before #[Value.ref b] s = true := fun w hw => hts w (List.mem_filter.mp hw).1
  have hA : ∀ q : Nat, s.heap.size ≤ q → lwA s q := fun _ h => h
  have hbA : ¬ lwA s b := Nat.not_le.mpr hbl
  intro n311
  induction n311 with
  | zero => intro F_311 D_311 P_311 w5_311 w6_311 w7_311 w8_311 w9_311 w10_311 l17_311 l16_311 l15_311 l14_311 l13_311 l12_311 l11_311 l9_311 l8_311 H locs ls h; exact absurd h (by simp [G_L_law_L311])
  | succ n311 ih311 =>
    intro F_311 D_311 P_311 w5_311 w6_311 w7_311 w8_311 w9_311 w10_311 l17_311 l16_311 l15_311 l14_311 l13_311 l12_311 l11_311 l9_311 l8_311 H locs ls h hP hD hS hl
    rw [G_L_law_L311] at h
    refine lv_iload hx hb dL_law_311 (lv_at hl 0 rfl) ?_
    refine lv_iload hx hb dL_law_313 (lv_at hl 2 rfl) ?_
    refine lv_iconst (v := 1) hx hb dL_law_315 (by decide) ?_
    refine lv_iadd hx hb dL_law_316 ?_
    refine lv_icmp_le (tgt := 355) hx hb dL_law_317 (by decide) (fun c317 => ?_) (fun c317 => ?_)
    · replace h := if_t h c317
      exact (law_j355 C1 hlt hN hNC hX0 hK hkc hkz ih) F_311 D_311 P_311 w5_311 w6_311 w7_311 w8_311 w9_311 w10_311 l16_311 l15_311 l14_311 l13_311 l12_311 l11_311 l9_311 l8_311 H locs ls h hP hD hS (lv_sub hl [1, 2, 3, 4, 5, 6, 7, 8, 9, 10, 11, 12, 13, 14, 15, 16] rfl)
    replace h := if_f h c317
    refine lv_iload hx hb dL_law_320 (lv_at hl 1 rfl) ?_
    refine lv_if_ne (tgt := 355) hx hb dL_law_322 (by decide) (fun c322 => ?_) (fun c322 => ?_)
    · replace h := if_f h c322
      exact (law_j355 C1 hlt hN hNC hX0 hK hkc hkz ih) F_311 D_311 P_311 w5_311 w6_311 w7_311 w8_311 w9_311 w10_311 l16_311 l15_311 l14_311 l13_311 l12_311 l11_311 l9_311 l8_311 H locs ls h hP hD hS (lv_sub hl [1, 2, 3, 4, 5, 6, 7, 8, 9, 10, 11, 12, 13, 14, 15, 16] rfl)
    replace h := if_t h c322
    refine lv_aload hx hb dL_law_325 (lv_at hl 15 rfl) ?_
    refine lv_iload hx hb dL_law_327 (lv_at hl 0 rfl) ?_
    refine lv_aload hx hb dL_law_329 (lv_at hl 15 rfl) ?_
    refine lv_iload hx hb dL_law_331 (lv_at hl 0 rfl) ?_
    refine lv_iconst (v := 1) hx hb dL_law_333 (by decide) ?_
    refine lv_isub hx hb dL_law_334 ?_
    obtain ⟨v335, e335, h⟩ := bnd h
    refine x_iald (v := v335) hx hb hK hP 17 0 rfl rfl e335 dL_law_335 ?_
    obtain ⟨g336, e336, h⟩ := bnd h
    refine x_iast (g := g336) hx hb hK hP hD hS 17 0 rfl rfl e336 dL_law_336 (fun H locs hP hD hS => ?_)
    have hP : va_P (dC, dI) vwCl (wSPo x ++ wFig (fun j => x (1 + j)) cy F_311 ++ wFig (fun j => x (6 + j)) cy D_311 ++ wP2 (fun j => x (11 + j)) cy P_311 ++ wIA a5 cy 5 w5_311 ++ wIA a6 cy 40 w6_311 ++ wIA a7 cy 40 w7_311 ++ wIA a8 cy 5 w8_311 ++ wIA a9 cy 40 g336 ++ wIA a10 cy 40 w10_311 ++ wPF (fun j => x (11 + j)) cy (p_figs P_311)) H := hP
    have hD : va_D (lwA s) (wSPo x ++ wFig (fun j => x (1 + j)) cy F_311 ++ wFig (fun j => x (6 + j)) cy D_311 ++ wP2 (fun j => x (11 + j)) cy P_311 ++ wIA a5 cy 5 w5_311 ++ wIA a6 cy 40 w6_311 ++ wIA a7 cy 40 w7_311 ++ wIA a8 cy 5 w8_311 ++ wIA a9 cy 40 g336 ++ wIA a10 cy 40 w10_311 ++ wPF (fun j => x (11 + j)) cy (p_figs P_311)) := hD
    refine lv_aload hx hb dL_law_337 (lv_at hl 16 rfl) ?_
    refine lv_iload hx hb dL_law_339 (lv_at hl 0 rfl) ?_
    refine lv_aload hx hb dL_law_341 (lv_at hl 16 rfl) ?_
    refine lv_iload hx hb dL_law_343 (lv_at hl 0 rfl) ?_
    refine lv_iconst (v := 1) hx hb dL_law_345 (by decide) ?_
    refine lv_isub hx hb dL_law_346 ?_
    obtain ⟨v347, e347, h⟩ := bnd h
    refine x_iald (v := v347) hx hb hK hP 18 0 rfl rfl e347 dL_law_347 ?_
    obtain ⟨g348, e348, h⟩ := bnd h
    refine x_iast (g := g348) hx hb hK hP hD hS 18 0 rfl rfl e348 dL_law_348 (fun H locs hP hD hS => ?_)
    have hP : va_P (dC, dI) vwCl (wSPo x ++ wFig (fun j => x (1 + j)) cy F_311 ++ wFig (fun j => x (6 + j)) cy D_311 ++ wP2 (fun j => x (11 + j)) cy P_311 ++ wIA a5 cy 5 w5_311 ++ wIA a6 cy 40 w6_311 ++ wIA a7 cy 40 w7_311 ++ wIA a8 cy 5 w8_311 ++ wIA a9 cy 40 g336 ++ wIA a10 cy 40 g348 ++ wPF (fun j => x (11 + j)) cy (p_figs P_311)) H := hP
    have hD : va_D (lwA s) (wSPo x ++ wFig (fun j => x (1 + j)) cy F_311 ++ wFig (fun j => x (6 + j)) cy D_311 ++ wP2 (fun j => x (11 + j)) cy P_311 ++ wIA a5 cy 5 w5_311 ++ wIA a6 cy 40 w6_311 ++ wIA a7 cy 40 w7_311 ++ wIA a8 cy 5 w8_311 ++ wIA a9 cy 40 g336 ++ wIA a10 cy 40 g348 ++ wPF (fun j => x (11 + j)) cy (p_figs P_311)) := hD
    refine lv_iinc (v := l17_311 + (-1)) (lv' := [(17, .int (l17_311 + (-1))), (16, .int l16_311), (15, .int l15_311), (14, .int l14_311), (13, .int l13_311), (12, .int l12_311), (11, .int l11_311), (9, .int l9_311), (8, .int l8_311), (0, .ref b), (1, .ref (x 0)), (2, .ref a5), (3, .ref a6), (4, .ref a7), (5, .ref a8), (6, .ref a9), (7, .ref a10)]) hx hb dL_law_349 hl (k := 0) rfl rfl (by decide) rfl (fun ls hl => ?_)
    refine lv_goto (tgt := 311) hx hb dL_law_352 (by decide) ?_
    exact ih311 F_311 D_311 P_311 w5_311 w6_311 w7_311 w8_311 g336 g348 (l17_311 + (-1)) l16_311 l15_311 l14_311 l13_311 l12_311 l11_311 l9_311 l8_311 H locs ls h hP hD hS (lv_sub hl [0, 1, 2, 3, 4, 5, 6, 7, 8, 9, 10, 11, 12, 13, 14, 15, 16] rfl)
set_option maxHeartbeats 8000000 in
set_option maxRecDepth 100000 in
theorem law_j269 {p : Program} {l : Launch} {e : Env} {s : State} {mm : MethodId} {below : List Frame} {meth : Method} {cd : Code} {dC : Nat → ClassId} {dI : Nat → Nat → Nat} {cy : Nat → ClassId} {b L : Nat} {xs : Nat → Int32} (C0 : lw_At p s mm meth cd b L xs) (hlt : l.stackTraces = false) (hN : NW s) (hNC : NC s) (hX0 : EX (lwA s) s s.heap) (hK : va_K (dC, dI) vwCl (TY cy) s) {x : Nat → Nat} {a5 a6 a7 a8 a9 a10 : Nat} {R : Fig → Fig → PastS → (Nat → Int32) → (Nat → Int32) → (Nat → Int32) → (Nat → Int32) → (Nat → Int32) → (Nat → Int32) → Int32 → Option (Int32)} {kc kz : Nat} (hkc : kc + 3 ≤ 600104) (hkz : kz + 18 ≤ 7301314) (ih : LK p l e s mm below meth cd dC dI cy b x a5 a6 a7 a8 a9 a10 R (kc + 3) (kz + 18)) : ∀ (F_269 : Fig) (D_269 : Fig) (P_269 : PastS) (w5_269 : Nat → Int32) (w6_269 : Nat → Int32) (w7_269 : Nat → Int32) (w8_269 : Nat → Int32) (w9_269 : Nat → Int32) (w10_269 : Nat → Int32) (l9_269 : Int32) (l8_269 : Int32) (H : Heap) (locs : List Loc) (ls : Array Slot), G_L_law_j269 R L xs F_269 D_269 P_269 w5_269 w6_269 w7_269 w8_269 w9_269 w10_269 l9_269 l8_269 = some 1 → va_P (dC, dI) vwCl (wSPo x ++ wFig (fun j => x (1 + j)) cy F_269 ++ wFig (fun j => x (6 + j)) cy D_269 ++ wP2 (fun j => x (11 + j)) cy P_269 ++ wIA a5 cy 5 w5_269 ++ wIA a6 cy 40 w6_269 ++ wIA a7 cy 40 w7_269 ++ wIA a8 cy 5 w8_269 ++ wIA a9 cy 40 w9_269 ++ wIA a10 cy 40 w10_269 ++ wPF (fun j => x (11 + j)) cy (p_figs P_269)) H → va_D (lwA s) (wSPo x ++ wFig (fun j => x (1 + j)) cy F_269 ++ wFig (fun j => x (6 + j)) cy D_269 ++ wP2 (fun j => x (11 + j)) cy P_269 ++ wIA a5 cy 5 w5_269 ++ wIA a6 cy 40 w6_269 ++ wIA a7 cy 40 w7_269 ++ wIA a8 cy 5 w8_269 ++ wIA a9 cy 40 w9_269 ++ wIA a10 cy 40 w10_269 ++ wPF (fun j => x (11 + j)) cy (p_figs P_269)) → va_S (lwA s) s.heap H locs → lv_has ls 18 [(9, .int l9_269), (8, .int l8_269), (0, .ref b), (1, .ref (x 0)), (2, .ref a5), (3, .ref a6), (4, .ref a7), (5, .ref a8), (6, .ref a9), (7, .ref a10)] → W p l e room_1 s mm #[Value.ref b] below meth cd H locs (kc + 3) (kz + 18) (lw_Z below #[Value.ref b] s) (F0 mm 269 ls []) := by
  have C1 := C0
  obtain ⟨hx, hb, hr, hml, hown, hts, hXs, hbl, hlocks, hgv⟩ := C0
  have htg : ∀ w ∈ GW, w.before #[Value.ref b] s = true := fun w hw => hts w (List.mem_filter.mp hw).1
  have hA : ∀ q : Nat, s.heap.size ≤ q → lwA s q := fun _ h => h
  have hbA : ¬ lwA s b := Nat.not_le.mpr hbl
  intro F_269 D_269 P_269 w5_269 w6_269 w7_269 w8_269 w9_269 w10_269 l9_269 l8_269 H locs ls h hP hD hS hl
  unfold G_L_law_j269 at h
  refine lv_goto (tgt := 805) hx hb dL_law_269 (by decide) ?_
  exact (law_j805 C1 hlt hN hNC hX0 hK hkc hkz ih) F_269 D_269 P_269 w5_269 w6_269 w7_269 w8_269 w9_269 w10_269 l9_269 l8_269 H locs ls h hP hD hS (lv_sub hl [0, 1, 2, 3, 4, 5, 6, 7, 8, 9] rfl)
