set_option maxHeartbeats 8000000 in
set_option maxRecDepth 100000 in
theorem law_turn {p : Program} {l : Launch} {e : Env} {s : State} {mm : MethodId} {below : List Frame} {meth : Method} {cd : Code} {dC : Nat → ClassId} {dI : Nat → Nat → Nat} {cy : Nat → ClassId} {b L : Nat} {xs : Nat → Int32} (C0 : lw_At p s mm meth cd b L xs) (hlt : l.stackTraces = false) (hN : NW s) (hNC : NC s) (hX0 : EX (lwA s) s s.heap) (hK : va_K (dC, dI) vwCl (TY cy) s) {x : Nat → Nat} {a5 a6 a7 a8 a9 a10 : Nat} {n69 kc kz : Nat} (hkc : kc + 3 ≤ 600104) (hkz : kz + 18 ≤ 7301314) (ih : LK p l e s mm below meth cd dC dI cy b x a5 a6 a7 a8 a9 a10 (G_L_law_L69 L xs n69) (kc + 3) (kz + 18)) : LK p l e s mm below meth cd dC dI cy b x a5 a6 a7 a8 a9 a10 (G_L_law_L69 L xs (n69 + 1)) kc kz := by
  have C1 := C0
  obtain ⟨hx, hb, hr, hml, hown, hts, hXs, hbl, hlocks, hgv⟩ := C0
  have htg : ∀ w ∈ GW, w.before #[Value.ref b] s = true := fun w hw => hts w (List.mem_filter.mp hw).1
  have hA : ∀ q : Nat, s.heap.size ≤ q → lwA s q := fun _ h => h
  have hbA : ¬ lwA s b := Nat.not_le.mpr hbl
  intro F D P w5 w6 w7 w8 w9 w10 l8_69 H locs ls h hP hD hS hl
  rw [G_L_law_L69] at h
  refine lv_iload hx hb dL_law_69 (lv_at hl 0 rfl) ?_
  refine lv_bipush (v := 12) hx hb dL_law_71 (by decide) ?_
  refine lv_icmp_ge (tgt := 834) hx hb dL_law_73 (by decide) (fun c73 => ?_) (fun c73 => ?_)
  · replace h := if_t h c73
    refine lv_iconst (v := 1) hx hb dL_law_834 (by decide) ?_
    refine va_forget (fun q hq => hS.2.2 q hq) ?_
    refine W.widen (k := 600104) (n := 7301314) (by omega) (by omega) ?_
    exact lw_ret hx hb hr hlocks dL_law_835
  replace h := if_f h c73
  refine lv_aload_n hx hb dL_law_76 rfl (lv_at hl 1 rfl) ?_
  refine lv_iload hx hb dL_law_77 (lv_at hl 0 rfl) ?_
  obtain ⟨v79, e79, h⟩ := bnd h
  refine cScr (rest := []) (st1 := [.int v79]) (k1 := kc + 0) (k2 := kz + 0) hx hb hml hown htg hN hK hXs hbl hbA (k_L_cell l dC dI cy b L xs l8_69 v79 e79) (g_S gw315 gw316 gw6 gw317) hdS_L_cell rfl ⟨⟨Nat.le_of_ble_eq_true rfl, Nat.le_of_ble_eq_true rfl⟩, (by show kc + 0 + 0 ≤ 600104; omega), (by show kz + 0 + 0 ≤ 7301314; omega)⟩ hP hD hS hA hl.1 rfl (Nat.le_of_ble_eq_true rfl) rfl (by show kc + 0 + 0 = kc + 0; omega) (by show kz + 0 + 0 = kz + 0; omega) dL_law_79 (fun H locs hP hD hS => ?_)
  refine lv_istore (lv' := [(9, .int v79), (8, .int l8_69), (0, .ref b), (1, .ref (x 0)), (2, .ref a5), (3, .ref a6), (4, .ref a7), (5, .ref a8), (6, .ref a9), (7, .ref a10)]) hx hb dL_law_82 hl (by decide) rfl (fun ls hl => ?_)
  refine lv_iload hx hb dL_law_84 (lv_at hl 0 rfl) ?_
  refine lv_bipush (v := 8) hx hb dL_law_86 (by decide) ?_
  obtain ⟨v88, e88, h⟩ := bnd h
  refine cSp (av := [.int v79, .int 8]) (rest := []) (st1 := [.int v88]) (k1 := kc + 0) (k2 := kz + 0) (wr := wSPo x ++ wFig (fun j => x (1 + j)) cy F ++ wFig (fun j => x (6 + j)) cy D ++ wP2 (fun j => x (11 + j)) cy P ++ wIA a5 cy 5 w5 ++ wIA a6 cy 40 w6 ++ wIA a7 cy 40 w7 ++ wIA a8 cy 5 w8 ++ wIA a9 cy 40 w9 ++ wIA a10 cy 40 w10 ++ wPF (fun j => x (11 + j)) cy (p_figs P)) (wn := wSPo x ++ wFig (fun j => x (1 + j)) cy F ++ wFig (fun j => x (6 + j)) cy D ++ wP2 (fun j => x (11 + j)) cy P ++ wIA a5 cy 5 w5 ++ wIA a6 cy 40 w6 ++ wIA a7 cy 40 w7 ++ wIA a8 cy 5 w8 ++ wIA a9 cy 40 w9 ++ wIA a10 cy 40 w10 ++ wPF (fun j => x (11 + j)) cy (p_figs P)) hx hb hml hown htg hN hK (c_L_low l dC dI cy   v79 8 v88 e88) (g_S gw320 gw321 gw6 gw322) hdS_L_low rfl ⟨⟨Nat.le_of_ble_eq_true rfl, Nat.le_of_ble_eq_true rfl⟩, (by show kc + 0 + 0 ≤ 600104; omega), (by show kz + 0 + 0 ≤ 7301314; omega)⟩ hP hD hS hA (perm_N (perm_ix 19 [] [0, 1, 2, 3, 4, 5, 6, 7, 8, 9, 10, 11, 12, 13, 14, 15, 16, 17, 18] rfl rfl rfl (by decide))) (perm_Nb (perm_ix 19 [0, 1, 2, 3, 4, 5, 6, 7, 8, 9, 10, 11, 12, 13, 14, 15, 16, 17, 18] [] rfl rfl rfl (by decide))) hl.1 rfl (Nat.le_of_ble_eq_true rfl) rfl (by show kc + 0 + 0 = kc + 0; omega) (by show kz + 0 + 0 = kz + 0; omega) dL_law_88 (fun H locs hP hD hS => ?_)
  refine lv_istore (lv' := [(10, .int v88), (9, .int v79), (8, .int l8_69), (0, .ref b), (1, .ref (x 0)), (2, .ref a5), (3, .ref a6), (4, .ref a7), (5, .ref a8), (6, .ref a9), (7, .ref a10)]) hx hb dL_law_91 hl (by decide) rfl (fun ls hl => ?_)
  refine lv_iload hx hb dL_law_93 (lv_at hl 1 rfl) ?_
  refine lv_iconst (v := 3) hx hb dL_law_95 (by decide) ?_
  refine lv_ishr hx hb dL_law_96 ?_
  refine lv_aload_n hx hb dL_law_97 rfl (lv_at hl 5 rfl) ?_
  refine lv_iconst (v := 0) hx hb dL_law_98 (by decide) ?_
  obtain ⟨v99, e99, h⟩ := bnd h
  refine x_iald (v := v99) hx hb hK hP 13 0 rfl rfl e99 dL_law_99 ?_
  obtain ⟨v100, e100, h⟩ := bnd h
  refine cSp (av := [.int (v79 >>> ((3 : Int32) &&& 31)), .int v99]) (rest := []) (st1 := [.int v100]) (k1 := kc + 0) (k2 := kz + 0) (wr := wSPo x ++ wFig (fun j => x (1 + j)) cy F ++ wFig (fun j => x (6 + j)) cy D ++ wP2 (fun j => x (11 + j)) cy P ++ wIA a5 cy 5 w5 ++ wIA a6 cy 40 w6 ++ wIA a7 cy 40 w7 ++ wIA a8 cy 5 w8 ++ wIA a9 cy 40 w9 ++ wIA a10 cy 40 w10 ++ wPF (fun j => x (11 + j)) cy (p_figs P)) (wn := wSPo x ++ wFig (fun j => x (1 + j)) cy F ++ wFig (fun j => x (6 + j)) cy D ++ wP2 (fun j => x (11 + j)) cy P ++ wIA a5 cy 5 w5 ++ wIA a6 cy 40 w6 ++ wIA a7 cy 40 w7 ++ wIA a8 cy 5 w8 ++ wIA a9 cy 40 w9 ++ wIA a10 cy 40 w10 ++ wPF (fun j => x (11 + j)) cy (p_figs P)) hx hb hml hown htg hN hK (c_L_low l dC dI cy   (v79 >>> ((3 : Int32) &&& 31)) v99 v100 e100) (g_S gw320 gw321 gw6 gw322) hdS_L_low rfl ⟨⟨Nat.le_of_ble_eq_true rfl, Nat.le_of_ble_eq_true rfl⟩, (by show kc + 0 + 0 ≤ 600104; omega), (by show kz + 0 + 0 ≤ 7301314; omega)⟩ hP hD hS hA (perm_N (perm_ix 19 [] [0, 1, 2, 3, 4, 5, 6, 7, 8, 9, 10, 11, 12, 13, 14, 15, 16, 17, 18] rfl rfl rfl (by decide))) (perm_Nb (perm_ix 19 [0, 1, 2, 3, 4, 5, 6, 7, 8, 9, 10, 11, 12, 13, 14, 15, 16, 17, 18] [] rfl rfl rfl (by decide))) hl.1 rfl (Nat.le_of_ble_eq_true rfl) rfl (by show kc + 0 + 0 = kc + 0; omega) (by show kz + 0 + 0 = kz + 0; omega) dL_law_100 (fun H locs hP hD hS => ?_)
  refine lv_istore (lv' := [(11, .int v100), (10, .int v88), (9, .int v79), (8, .int l8_69), (0, .ref b), (1, .ref (x 0)), (2, .ref a5), (3, .ref a6), (4, .ref a7), (5, .ref a8), (6, .ref a9), (7, .ref a10)]) hx hb dL_law_103 hl (by decide) rfl (fun ls hl => ?_)
  refine lv_iload hx hb dL_law_105 (lv_at hl 2 rfl) ?_
  refine lv_iconst (v := 5) hx hb dL_law_107 (by decide) ?_
  refine lv_ishr hx hb dL_law_108 ?_
  refine lv_aload_n hx hb dL_law_109 rfl (lv_at hl 6 rfl) ?_
  refine lv_iconst (v := 1) hx hb dL_law_110 (by decide) ?_
  refine lv_iload hx hb dL_law_111 (lv_at hl 0 rfl) ?_
  refine lv_iadd hx hb dL_law_113 ?_
  obtain ⟨v114, e114, h⟩ := bnd h
  refine x_iald (v := v114) hx hb hK hP 13 0 rfl rfl e114 dL_law_114 ?_
  obtain ⟨v115, e115, h⟩ := bnd h
  refine cSp (av := [.int (v79 >>> ((5 : Int32) &&& 31)), .int v114]) (rest := []) (st1 := [.int v115]) (k1 := kc + 0) (k2 := kz + 0) (wr := wSPo x ++ wFig (fun j => x (1 + j)) cy F ++ wFig (fun j => x (6 + j)) cy D ++ wP2 (fun j => x (11 + j)) cy P ++ wIA a5 cy 5 w5 ++ wIA a6 cy 40 w6 ++ wIA a7 cy 40 w7 ++ wIA a8 cy 5 w8 ++ wIA a9 cy 40 w9 ++ wIA a10 cy 40 w10 ++ wPF (fun j => x (11 + j)) cy (p_figs P)) (wn := wSPo x ++ wFig (fun j => x (1 + j)) cy F ++ wFig (fun j => x (6 + j)) cy D ++ wP2 (fun j => x (11 + j)) cy P ++ wIA a5 cy 5 w5 ++ wIA a6 cy 40 w6 ++ wIA a7 cy 40 w7 ++ wIA a8 cy 5 w8 ++ wIA a9 cy 40 w9 ++ wIA a10 cy 40 w10 ++ wPF (fun j => x (11 + j)) cy (p_figs P)) hx hb hml hown htg hN hK (c_L_low l dC dI cy   (v79 >>> ((5 : Int32) &&& 31)) v114 v115 e115) (g_S gw320 gw321 gw6 gw322) hdS_L_low rfl ⟨⟨Nat.le_of_ble_eq_true rfl, Nat.le_of_ble_eq_true rfl⟩, (by show kc + 0 + 0 ≤ 600104; omega), (by show kz + 0 + 0 ≤ 7301314; omega)⟩ hP hD hS hA (perm_N (perm_ix 19 [] [0, 1, 2, 3, 4, 5, 6, 7, 8, 9, 10, 11, 12, 13, 14, 15, 16, 17, 18] rfl rfl rfl (by decide))) (perm_Nb (perm_ix 19 [0, 1, 2, 3, 4, 5, 6, 7, 8, 9, 10, 11, 12, 13, 14, 15, 16, 17, 18] [] rfl rfl rfl (by decide))) hl.1 rfl (Nat.le_of_ble_eq_true rfl) rfl (by show kc + 0 + 0 = kc + 0; omega) (by show kz + 0 + 0 = kz + 0; omega) dL_law_115 (fun H locs hP hD hS => ?_)
  refine lv_istore (lv' := [(12, .int v115), (11, .int v100), (10, .int v88), (9, .int v79), (8, .int l8_69), (0, .ref b), (1, .ref (x 0)), (2, .ref a5), (3, .ref a6), (4, .ref a7), (5, .ref a8), (6, .ref a9), (7, .ref a10)]) hx hb dL_law_118 hl (by decide) rfl (fun ls hl => ?_)
  refine lv_iload hx hb dL_law_120 (lv_at hl 3 rfl) ?_
  refine lv_bipush (v := 9) hx hb dL_law_122 (by decide) ?_
  refine lv_ishr hx hb dL_law_124 ?_
  refine lv_bipush (v := 17) hx hb dL_law_125 (by decide) ?_
  obtain ⟨v127, e127, h⟩ := bnd h
  refine cSp (av := [.int (v79 >>> ((9 : Int32) &&& 31)), .int 17]) (rest := []) (st1 := [.int v127]) (k1 := kc + 0) (k2 := kz + 0) (wr := wSPo x ++ wFig (fun j => x (1 + j)) cy F ++ wFig (fun j => x (6 + j)) cy D ++ wP2 (fun j => x (11 + j)) cy P ++ wIA a5 cy 5 w5 ++ wIA a6 cy 40 w6 ++ wIA a7 cy 40 w7 ++ wIA a8 cy 5 w8 ++ wIA a9 cy 40 w9 ++ wIA a10 cy 40 w10 ++ wPF (fun j => x (11 + j)) cy (p_figs P)) (wn := wSPo x ++ wFig (fun j => x (1 + j)) cy F ++ wFig (fun j => x (6 + j)) cy D ++ wP2 (fun j => x (11 + j)) cy P ++ wIA a5 cy 5 w5 ++ wIA a6 cy 40 w6 ++ wIA a7 cy 40 w7 ++ wIA a8 cy 5 w8 ++ wIA a9 cy 40 w9 ++ wIA a10 cy 40 w10 ++ wPF (fun j => x (11 + j)) cy (p_figs P)) hx hb hml hown htg hN hK (c_L_low l dC dI cy   (v79 >>> ((9 : Int32) &&& 31)) 17 v127 e127) (g_S gw320 gw321 gw6 gw322) hdS_L_low rfl ⟨⟨Nat.le_of_ble_eq_true rfl, Nat.le_of_ble_eq_true rfl⟩, (by show kc + 0 + 0 ≤ 600104; omega), (by show kz + 0 + 0 ≤ 7301314; omega)⟩ hP hD hS hA (perm_N (perm_ix 19 [] [0, 1, 2, 3, 4, 5, 6, 7, 8, 9, 10, 11, 12, 13, 14, 15, 16, 17, 18] rfl rfl rfl (by decide))) (perm_Nb (perm_ix 19 [0, 1, 2, 3, 4, 5, 6, 7, 8, 9, 10, 11, 12, 13, 14, 15, 16, 17, 18] [] rfl rfl rfl (by decide))) hl.1 rfl (Nat.le_of_ble_eq_true rfl) rfl (by show kc + 0 + 0 = kc + 0; omega) (by show kz + 0 + 0 = kz + 0; omega) dL_law_127 (fun H locs hP hD hS => ?_)
  refine lv_istore (lv' := [(13, .int v127), (12, .int v115), (11, .int v100), (10, .int v88), (9, .int v79), (8, .int l8_69), (0, .ref b), (1, .ref (x 0)), (2, .ref a5), (3, .ref a6), (4, .ref a7), (5, .ref a8), (6, .ref a9), (7, .ref a10)]) hx hb dL_law_130 hl (by decide) rfl (fun ls hl => ?_)
  refine lv_iload hx hb dL_law_132 (lv_at hl 4 rfl) ?_
  refine lv_bipush (v := 14) hx hb dL_law_134 (by decide) ?_
  refine lv_ishr hx hb dL_law_136 ?_
  refine lv_bipush (v := 17) hx hb dL_law_137 (by decide) ?_
  obtain ⟨v139, e139, h⟩ := bnd h
  refine cSp (av := [.int (v79 >>> ((14 : Int32) &&& 31)), .int 17]) (rest := []) (st1 := [.int v139]) (k1 := kc + 0) (k2 := kz + 0) (wr := wSPo x ++ wFig (fun j => x (1 + j)) cy F ++ wFig (fun j => x (6 + j)) cy D ++ wP2 (fun j => x (11 + j)) cy P ++ wIA a5 cy 5 w5 ++ wIA a6 cy 40 w6 ++ wIA a7 cy 40 w7 ++ wIA a8 cy 5 w8 ++ wIA a9 cy 40 w9 ++ wIA a10 cy 40 w10 ++ wPF (fun j => x (11 + j)) cy (p_figs P)) (wn := wSPo x ++ wFig (fun j => x (1 + j)) cy F ++ wFig (fun j => x (6 + j)) cy D ++ wP2 (fun j => x (11 + j)) cy P ++ wIA a5 cy 5 w5 ++ wIA a6 cy 40 w6 ++ wIA a7 cy 40 w7 ++ wIA a8 cy 5 w8 ++ wIA a9 cy 40 w9 ++ wIA a10 cy 40 w10 ++ wPF (fun j => x (11 + j)) cy (p_figs P)) hx hb hml hown htg hN hK (c_L_low l dC dI cy   (v79 >>> ((14 : Int32) &&& 31)) 17 v139 e139) (g_S gw320 gw321 gw6 gw322) hdS_L_low rfl ⟨⟨Nat.le_of_ble_eq_true rfl, Nat.le_of_ble_eq_true rfl⟩, (by show kc + 0 + 0 ≤ 600104; omega), (by show kz + 0 + 0 ≤ 7301314; omega)⟩ hP hD hS hA (perm_N (perm_ix 19 [] [0, 1, 2, 3, 4, 5, 6, 7, 8, 9, 10, 11, 12, 13, 14, 15, 16, 17, 18] rfl rfl rfl (by decide))) (perm_Nb (perm_ix 19 [0, 1, 2, 3, 4, 5, 6, 7, 8, 9, 10, 11, 12, 13, 14, 15, 16, 17, 18] [] rfl rfl rfl (by decide))) hl.1 rfl (Nat.le_of_ble_eq_true rfl) rfl (by show kc + 0 + 0 = kc + 0; omega) (by show kz + 0 + 0 = kz + 0; omega) dL_law_139 (fun H locs hP hD hS => ?_)
  refine lv_istore (lv' := [(14, .int v139), (13, .int v127), (12, .int v115), (11, .int v100), (10, .int v88), (9, .int v79), (8, .int l8_69), (0, .ref b), (1, .ref (x 0)), (2, .ref a5), (3, .ref a6), (4, .ref a7), (5, .ref a8), (6, .ref a9), (7, .ref a10)]) hx hb dL_law_142 hl (by decide) rfl (fun ls hl => ?_)
  refine lv_bipush (v := 10) hx hb dL_law_144 (by decide) ?_
  refine lv_iload hx hb dL_law_146 (lv_at hl 3 rfl) ?_
  refine lv_imul hx hb dL_law_148 ?_
  refine lv_iload hx hb dL_law_149 (lv_at hl 2 rfl) ?_
  refine lv_iadd hx hb dL_law_151 ?_
  refine lv_istore (lv' := [(15, .int ((10 * v100) + v115)), (14, .int v139), (13, .int v127), (12, .int v115), (11, .int v100), (10, .int v88), (9, .int v79), (8, .int l8_69), (0, .ref b), (1, .ref (x 0)), (2, .ref a5), (3, .ref a6), (4, .ref a7), (5, .ref a8), (6, .ref a9), (7, .ref a10)]) hx hb dL_law_152 hl (by decide) rfl (fun ls hl => ?_)
  refine lv_aload_n hx hb dL_law_154 rfl (lv_at hl 10 rfl) ?_
  refine lv_aload_n hx hb dL_law_155 rfl (lv_at hl 11 rfl) ?_
  refine lv_aload hx hb dL_law_156 (lv_at hl 12 rfl) ?_
  refine lv_aload hx hb dL_law_158 (lv_at hl 13 rfl) ?_
  refine lv_aload hx hb dL_law_160 (lv_at hl 14 rfl) ?_
  refine lv_aload hx hb dL_law_162 (lv_at hl 15 rfl) ?_
  obtain ⟨v164, e164, h⟩ := bnd h
  refine cSp (av := [.ref a5, .ref a6, .ref a7, .ref a8, .ref a9, .ref a10]) (rest := []) (st1 := []) (k1 := kc + 0) (k2 := kz + 0) (wr := wSPo x ++ wFig (fun j => x (1 + j)) cy F ++ wFig (fun j => x (6 + j)) cy D ++ wP2 (fun j => x (11 + j)) cy P ++ wPF (fun j => x (11 + j)) cy (p_figs P)) (wn := wSPo x ++ wFig (fun j => x (1 + j)) cy F ++ wFig (fun j => x (6 + j)) cy D ++ wP2 (fun j => x (11 + j)) cy P ++ wIA a5 cy 5 w5 ++ wIA a6 cy 40 w6 ++ wIA a7 cy 40 w7 ++ wIA a8 cy 5 v164.1 ++ wIA a9 cy 40 v164.2.1 ++ wIA a10 cy 40 v164.2.2 ++ wPF (fun j => x (11 + j)) cy (p_figs P)) hx hb hml hown htg hN hK (c_L_copy l dC dI cy a5 a6 a7 a8 a9 a10 5 40 40 5 40 40 w5 w6 w7 w8 w9 w10  v164 e164) (g_S gw603 gw604 gw6 gw605) hdS_L_copy rfl ⟨⟨Nat.le_of_ble_eq_true rfl, Nat.le_of_ble_eq_true rfl⟩, (by show kc + 0 + 0 ≤ 600104; omega), (by show kz + 0 + 0 ≤ 7301314; omega)⟩ hP hD hS hA (perm_N (perm_ix 19 [13, 14, 15, 16, 17, 18] [0, 1, 2, 3, 4, 5, 6, 7, 8, 9, 10, 11, 12] rfl rfl rfl (by decide))) (perm_Nb (perm_ix 19 [0, 1, 2, 3, 4, 5, 6, 7, 8, 9, 10, 11, 12] [13, 14, 15, 16, 17, 18] rfl rfl rfl (by decide))) hl.1 rfl (Nat.le_of_ble_eq_true rfl) rfl (by show kc + 0 + 0 = kc + 0; omega) (by show kz + 0 + 0 = kz + 0; omega) dL_law_164 (fun H locs hP hD hS => ?_)
  refine lv_iload hx hb dL_law_167 (lv_at hl 5 rfl) ?_
  refine lv_iconst (v := 4) hx hb dL_law_169 (by decide) ?_
  refine lv_icmp_ge (tgt := 272) hx hb dL_law_170 (by decide) (fun c170 => ?_) (fun c170 => ?_)
  · replace h := if_t h c170
    refine lv_iload hx hb dL_law_272 (lv_at hl 5 rfl) ?_
    refine lv_bipush (v := 6) hx hb dL_law_274 (by decide) ?_
    refine lv_icmp_ge (tgt := 470) hx hb dL_law_276 (by decide) (fun c276 => ?_) (fun c276 => ?_)
    · replace h := if_t h c276
      refine lv_iload hx hb dL_law_470 (lv_at hl 5 rfl) ?_
      refine lv_bipush (v := 6) hx hb dL_law_472 (by decide) ?_
      refine lv_icmp_ne (tgt := 649) hx hb dL_law_474 (by decide) (fun c474 => ?_) (fun c474 => ?_)
      · replace h := if_f h c474
        refine lv_aload_n hx hb dL_law_649 rfl (lv_at hl 10 rfl) ?_
        refine lv_iconst (v := 0) hx hb dL_law_650 (by decide) ?_
        obtain ⟨v651, e651, h⟩ := bnd h
        refine x_iald (v := v651) hx hb hK hP 13 0 rfl rfl e651 dL_law_651 ?_
        refine lv_iconst (v := 4) hx hb dL_law_652 (by decide) ?_
        refine lv_icmp_ge (tgt := 805) hx hb dL_law_653 (by decide) (fun c653 => ?_) (fun c653 => ?_)
        · replace h := if_t h c653
          refine W.widen (k := kc + 3) (n := kz + 18) (by omega) (by omega) ?_
          exact (law_j805 C1 hlt hN hNC hX0 hK hkc hkz ih) F D P w5 w6 w7 v164.1 v164.2.1 v164.2.2 v79 l8_69 H locs ls h hP hD hS (lv_sub hl [6, 7, 8, 9, 10, 11, 12, 13, 14, 15] rfl)
        replace h := if_f h c653
        refine lv_bipush (v := 10) hx hb dL_law_656 (by decide) ?_
        refine lv_aload hx hb dL_law_658 (lv_at hl 13 rfl) ?_
        refine lv_iconst (v := 0) hx hb dL_law_660 (by decide) ?_
        refine lv_dup2_11 hx hb dL_law_661 rfl rfl ?_
        obtain ⟨v662, e662, h⟩ := bnd h
        refine x_iald (v := v662) hx hb hK hP 16 0 rfl rfl e662 dL_law_662 ?_
        refine lv_dup_x2 hx hb dL_law_663 rfl rfl rfl ?_
        refine lv_iconst (v := 1) hx hb dL_law_664 (by decide) ?_
        refine lv_iadd hx hb dL_law_665 ?_
        obtain ⟨g666, e666, h⟩ := bnd h
        refine x_iast (g := g666) hx hb hK hP hD hS 16 0 rfl rfl e666 dL_law_666 (fun H locs hP hD hS => ?_)
        have hP : va_P (dC, dI) vwCl (wSPo x ++ wFig (fun j => x (1 + j)) cy F ++ wFig (fun j => x (6 + j)) cy D ++ wP2 (fun j => x (11 + j)) cy P ++ wIA a5 cy 5 w5 ++ wIA a6 cy 40 w6 ++ wIA a7 cy 40 w7 ++ wIA a8 cy 5 g666 ++ wIA a9 cy 40 v164.2.1 ++ wIA a10 cy 40 v164.2.2 ++ wPF (fun j => x (11 + j)) cy (p_figs P)) H := hP
        have hD : va_D (lwA s) (wSPo x ++ wFig (fun j => x (1 + j)) cy F ++ wFig (fun j => x (6 + j)) cy D ++ wP2 (fun j => x (11 + j)) cy P ++ wIA a5 cy 5 w5 ++ wIA a6 cy 40 w6 ++ wIA a7 cy 40 w7 ++ wIA a8 cy 5 g666 ++ wIA a9 cy 40 v164.2.1 ++ wIA a10 cy 40 v164.2.2 ++ wPF (fun j => x (11 + j)) cy (p_figs P)) := hD
        refine lv_imul hx hb dL_law_667 ?_
        refine lv_istore (lv' := [(16, .int (10 * v662)), (15, .int ((10 * v100) + v115)), (14, .int v139), (13, .int v127), (12, .int v115), (11, .int v100), (10, .int v88), (9, .int v79), (8, .int l8_69), (0, .ref b), (1, .ref (x 0)), (2, .ref a5), (3, .ref a6), (4, .ref a7), (5, .ref a8), (6, .ref a9), (7, .ref a10)]) hx hb dL_law_668 hl (by decide) rfl (fun ls hl => ?_)
        refine lv_aload hx hb dL_law_670 (lv_at hl 14 rfl) ?_
        refine lv_aload hx hb dL_law_672 (lv_at hl 14 rfl) ?_
        refine lv_iconst (v := 0) hx hb dL_law_674 (by decide) ?_
        obtain ⟨v675, e675, h⟩ := bnd h
        refine x_iald (v := v675) hx hb hK hP 16 0 rfl rfl e675 dL_law_675 ?_
        refine lv_iconst (v := 3) hx hb dL_law_676 (by decide) ?_
        obtain ⟨g677, e677, h⟩ := bnd h
        refine x_iast (g := g677) hx hb hK hP hD hS 16 0 rfl rfl e677 dL_law_677 (fun H locs hP hD hS => ?_)
        have hP : va_P (dC, dI) vwCl (wSPo x ++ wFig (fun j => x (1 + j)) cy F ++ wFig (fun j => x (6 + j)) cy D ++ wP2 (fun j => x (11 + j)) cy P ++ wIA a5 cy 5 w5 ++ wIA a6 cy 40 w6 ++ wIA a7 cy 40 w7 ++ wIA a8 cy 5 g677 ++ wIA a9 cy 40 v164.2.1 ++ wIA a10 cy 40 v164.2.2 ++ wPF (fun j => x (11 + j)) cy (p_figs P)) H := hP
        have hD : va_D (lwA s) (wSPo x ++ wFig (fun j => x (1 + j)) cy F ++ wFig (fun j => x (6 + j)) cy D ++ wP2 (fun j => x (11 + j)) cy P ++ wIA a5 cy 5 w5 ++ wIA a6 cy 40 w6 ++ wIA a7 cy 40 w7 ++ wIA a8 cy 5 g677 ++ wIA a9 cy 40 v164.2.1 ++ wIA a10 cy 40 v164.2.2 ++ wPF (fun j => x (11 + j)) cy (p_figs P)) := hD
        refine lv_aload hx hb dL_law_678 (lv_at hl 15 rfl) ?_
        refine lv_iload hx hb dL_law_680 (lv_at hl 0 rfl) ?_
        refine lv_iload hx hb dL_law_682 (lv_at hl 3 rfl) ?_
        obtain ⟨g684, e684, h⟩ := bnd h
        refine x_iast (g := g684) hx hb hK hP hD hS 17 0 rfl rfl e684 dL_law_684 (fun H locs hP hD hS => ?_)
        have hP : va_P (dC, dI) vwCl (wSPo x ++ wFig (fun j => x (1 + j)) cy F ++ wFig (fun j => x (6 + j)) cy D ++ wP2 (fun j => x (11 + j)) cy P ++ wIA a5 cy 5 w5 ++ wIA a6 cy 40 w6 ++ wIA a7 cy 40 w7 ++ wIA a8 cy 5 g677 ++ wIA a9 cy 40 g684 ++ wIA a10 cy 40 v164.2.2 ++ wPF (fun j => x (11 + j)) cy (p_figs P)) H := hP
        have hD : va_D (lwA s) (wSPo x ++ wFig (fun j => x (1 + j)) cy F ++ wFig (fun j => x (6 + j)) cy D ++ wP2 (fun j => x (11 + j)) cy P ++ wIA a5 cy 5 w5 ++ wIA a6 cy 40 w6 ++ wIA a7 cy 40 w7 ++ wIA a8 cy 5 g677 ++ wIA a9 cy 40 g684 ++ wIA a10 cy 40 v164.2.2 ++ wPF (fun j => x (11 + j)) cy (p_figs P)) := hD
        refine lv_aload hx hb dL_law_685 (lv_at hl 16 rfl) ?_
        refine lv_iload hx hb dL_law_687 (lv_at hl 0 rfl) ?_
        refine lv_iload hx hb dL_law_689 (lv_at hl 2 rfl) ?_
        obtain ⟨g691, e691, h⟩ := bnd h
        refine x_iast (g := g691) hx hb hK hP hD hS 18 0 rfl rfl e691 dL_law_691 (fun H locs hP hD hS => ?_)
        have hP : va_P (dC, dI) vwCl (wSPo x ++ wFig (fun j => x (1 + j)) cy F ++ wFig (fun j => x (6 + j)) cy D ++ wP2 (fun j => x (11 + j)) cy P ++ wIA a5 cy 5 w5 ++ wIA a6 cy 40 w6 ++ wIA a7 cy 40 w7 ++ wIA a8 cy 5 g677 ++ wIA a9 cy 40 g684 ++ wIA a10 cy 40 g691 ++ wPF (fun j => x (11 + j)) cy (p_figs P)) H := hP
        have hD : va_D (lwA s) (wSPo x ++ wFig (fun j => x (1 + j)) cy F ++ wFig (fun j => x (6 + j)) cy D ++ wP2 (fun j => x (11 + j)) cy P ++ wIA a5 cy 5 w5 ++ wIA a6 cy 40 w6 ++ wIA a7 cy 40 w7 ++ wIA a8 cy 5 g677 ++ wIA a9 cy 40 g684 ++ wIA a10 cy 40 g691 ++ wPF (fun j => x (11 + j)) cy (p_figs P)) := hD
        refine lv_aload hx hb dL_law_692 (lv_at hl 15 rfl) ?_
        refine lv_iload hx hb dL_law_694 (lv_at hl 0 rfl) ?_
        refine lv_iconst (v := 1) hx hb dL_law_696 (by decide) ?_
        refine lv_iadd hx hb dL_law_697 ?_
        refine lv_iload hx hb dL_law_698 (lv_at hl 3 rfl) ?_
        refine lv_iconst (v := 1) hx hb dL_law_700 (by decide) ?_
        refine lv_iadd hx hb dL_law_701 ?_
        obtain ⟨g702, e702, h⟩ := bnd h
        refine x_iast (g := g702) hx hb hK hP hD hS 17 0 rfl rfl e702 dL_law_702 (fun H locs hP hD hS => ?_)
        have hP : va_P (dC, dI) vwCl (wSPo x ++ wFig (fun j => x (1 + j)) cy F ++ wFig (fun j => x (6 + j)) cy D ++ wP2 (fun j => x (11 + j)) cy P ++ wIA a5 cy 5 w5 ++ wIA a6 cy 40 w6 ++ wIA a7 cy 40 w7 ++ wIA a8 cy 5 g677 ++ wIA a9 cy 40 g702 ++ wIA a10 cy 40 g691 ++ wPF (fun j => x (11 + j)) cy (p_figs P)) H := hP
        have hD : va_D (lwA s) (wSPo x ++ wFig (fun j => x (1 + j)) cy F ++ wFig (fun j => x (6 + j)) cy D ++ wP2 (fun j => x (11 + j)) cy P ++ wIA a5 cy 5 w5 ++ wIA a6 cy 40 w6 ++ wIA a7 cy 40 w7 ++ wIA a8 cy 5 g677 ++ wIA a9 cy 40 g702 ++ wIA a10 cy 40 g691 ++ wPF (fun j => x (11 + j)) cy (p_figs P)) := hD
        refine lv_aload hx hb dL_law_703 (lv_at hl 16 rfl) ?_
        refine lv_iload hx hb dL_law_705 (lv_at hl 0 rfl) ?_
        refine lv_iconst (v := 1) hx hb dL_law_707 (by decide) ?_
        refine lv_iadd hx hb dL_law_708 ?_
        refine lv_iload hx hb dL_law_709 (lv_at hl 2 rfl) ?_
        obtain ⟨g711, e711, h⟩ := bnd h
        refine x_iast (g := g711) hx hb hK hP hD hS 18 0 rfl rfl e711 dL_law_711 (fun H locs hP hD hS => ?_)
        have hP : va_P (dC, dI) vwCl (wSPo x ++ wFig (fun j => x (1 + j)) cy F ++ wFig (fun j => x (6 + j)) cy D ++ wP2 (fun j => x (11 + j)) cy P ++ wIA a5 cy 5 w5 ++ wIA a6 cy 40 w6 ++ wIA a7 cy 40 w7 ++ wIA a8 cy 5 g677 ++ wIA a9 cy 40 g702 ++ wIA a10 cy 40 g711 ++ wPF (fun j => x (11 + j)) cy (p_figs P)) H := hP
        have hD : va_D (lwA s) (wSPo x ++ wFig (fun j => x (1 + j)) cy F ++ wFig (fun j => x (6 + j)) cy D ++ wP2 (fun j => x (11 + j)) cy P ++ wIA a5 cy 5 w5 ++ wIA a6 cy 40 w6 ++ wIA a7 cy 40 w7 ++ wIA a8 cy 5 g677 ++ wIA a9 cy 40 g702 ++ wIA a10 cy 40 g711 ++ wPF (fun j => x (11 + j)) cy (p_figs P)) := hD
        refine lv_aload hx hb dL_law_712 (lv_at hl 15 rfl) ?_
        refine lv_iload hx hb dL_law_714 (lv_at hl 0 rfl) ?_
        refine lv_iconst (v := 2) hx hb dL_law_716 (by decide) ?_
        refine lv_iadd hx hb dL_law_717 ?_
        refine lv_iload hx hb dL_law_718 (lv_at hl 3 rfl) ?_
        obtain ⟨g720, e720, h⟩ := bnd h
        refine x_iast (g := g720) hx hb hK hP hD hS 17 0 rfl rfl e720 dL_law_720 (fun H locs hP hD hS => ?_)
        have hP : va_P (dC, dI) vwCl (wSPo x ++ wFig (fun j => x (1 + j)) cy F ++ wFig (fun j => x (6 + j)) cy D ++ wP2 (fun j => x (11 + j)) cy P ++ wIA a5 cy 5 w5 ++ wIA a6 cy 40 w6 ++ wIA a7 cy 40 w7 ++ wIA a8 cy 5 g677 ++ wIA a9 cy 40 g720 ++ wIA a10 cy 40 g711 ++ wPF (fun j => x (11 + j)) cy (p_figs P)) H := hP
        have hD : va_D (lwA s) (wSPo x ++ wFig (fun j => x (1 + j)) cy F ++ wFig (fun j => x (6 + j)) cy D ++ wP2 (fun j => x (11 + j)) cy P ++ wIA a5 cy 5 w5 ++ wIA a6 cy 40 w6 ++ wIA a7 cy 40 w7 ++ wIA a8 cy 5 g677 ++ wIA a9 cy 40 g720 ++ wIA a10 cy 40 g711 ++ wPF (fun j => x (11 + j)) cy (p_figs P)) := hD
        refine lv_aload hx hb dL_law_721 (lv_at hl 16 rfl) ?_
        refine lv_iload hx hb dL_law_723 (lv_at hl 0 rfl) ?_
        refine lv_iconst (v := 2) hx hb dL_law_725 (by decide) ?_
        refine lv_iadd hx hb dL_law_726 ?_
        refine lv_iload hx hb dL_law_727 (lv_at hl 2 rfl) ?_
        refine lv_iconst (v := 1) hx hb dL_law_729 (by decide) ?_
        refine lv_iadd hx hb dL_law_730 ?_
        obtain ⟨g731, e731, h⟩ := bnd h
        refine x_iast (g := g731) hx hb hK hP hD hS 18 0 rfl rfl e731 dL_law_731 (fun H locs hP hD hS => ?_)
        have hP : va_P (dC, dI) vwCl (wSPo x ++ wFig (fun j => x (1 + j)) cy F ++ wFig (fun j => x (6 + j)) cy D ++ wP2 (fun j => x (11 + j)) cy P ++ wIA a5 cy 5 w5 ++ wIA a6 cy 40 w6 ++ wIA a7 cy 40 w7 ++ wIA a8 cy 5 g677 ++ wIA a9 cy 40 g720 ++ wIA a10 cy 40 g731 ++ wPF (fun j => x (11 + j)) cy (p_figs P)) H := hP
        have hD : va_D (lwA s) (wSPo x ++ wFig (fun j => x (1 + j)) cy F ++ wFig (fun j => x (6 + j)) cy D ++ wP2 (fun j => x (11 + j)) cy P ++ wIA a5 cy 5 w5 ++ wIA a6 cy 40 w6 ++ wIA a7 cy 40 w7 ++ wIA a8 cy 5 g677 ++ wIA a9 cy 40 g720 ++ wIA a10 cy 40 g731 ++ wPF (fun j => x (11 + j)) cy (p_figs P)) := hD
        refine lv_aload hx hb dL_law_732 (lv_at hl 14 rfl) ?_
        refine lv_aload hx hb dL_law_734 (lv_at hl 15 rfl) ?_
        refine lv_aload hx hb dL_law_736 (lv_at hl 16 rfl) ?_
        obtain ⟨v738, e738, h⟩ := bnd h
        refine cSp (av := [.ref a8, .ref a9, .ref a10]) (rest := []) (st1 := [.int v738]) (k1 := kc + 0) (k2 := kz + 0) (wr := wSPo x ++ wFig (fun j => x (1 + j)) cy F ++ wFig (fun j => x (6 + j)) cy D ++ wP2 (fun j => x (11 + j)) cy P ++ wIA a5 cy 5 w5 ++ wIA a6 cy 40 w6 ++ wIA a7 cy 40 w7 ++ wPF (fun j => x (11 + j)) cy (p_figs P)) (wn := wSPo x ++ wFig (fun j => x (1 + j)) cy F ++ wFig (fun j => x (6 + j)) cy D ++ wP2 (fun j => x (11 + j)) cy P ++ wIA a5 cy 5 w5 ++ wIA a6 cy 40 w6 ++ wIA a7 cy 40 w7 ++ wIA a8 cy 5 g677 ++ wIA a9 cy 40 g720 ++ wIA a10 cy 40 g731 ++ wPF (fun j => x (11 + j)) cy (p_figs P)) hx hb hml hown htg hN hK (c_L_broken l dC dI cy a8 a9 a10 5 40 40 g677 g720 g731  v738 e738) (g_S gw450 gw451 gw6 gw452) hdS_L_broken rfl ⟨⟨Nat.le_of_ble_eq_true rfl, Nat.le_of_ble_eq_true rfl⟩, (by show kc + 0 + 0 ≤ 600104; omega), (by show kz + 0 + 0 ≤ 7301314; omega)⟩ hP hD hS hA (perm_N (perm_ix 19 [16, 17, 18] [0, 1, 2, 3, 4, 5, 6, 7, 8, 9, 10, 11, 12, 13, 14, 15] rfl rfl rfl (by decide))) (perm_Nb (perm_ix 19 [0, 1, 2, 3, 4, 5, 6, 7, 8, 9, 10, 11, 12, 13, 14, 15] [16, 17, 18] rfl rfl rfl (by decide))) hl.1 rfl (Nat.le_of_ble_eq_true rfl) rfl (by show kc + 0 + 0 = kc + 0; omega) (by show kz + 0 + 0 = kz + 0; omega) dL_law_738 (fun H locs hP hD hS => ?_)
        refine lv_istore (lv' := [(17, .int v738), (16, .int (10 * v662)), (15, .int ((10 * v100) + v115)), (14, .int v139), (13, .int v127), (12, .int v115), (11, .int v100), (10, .int v88), (9, .int v79), (8, .int l8_69), (0, .ref b), (1, .ref (x 0)), (2, .ref a5), (3, .ref a6), (4, .ref a7), (5, .ref a8), (6, .ref a9), (7, .ref a10)]) hx hb dL_law_741 hl (by decide) rfl (fun ls hl => ?_)
        refine lv_aload_n hx hb dL_law_743 rfl (lv_at hl 11 rfl) ?_
        refine lv_iload hx hb dL_law_744 (lv_at hl 4 rfl) ?_
        refine lv_iload hx hb dL_law_746 (lv_at hl 3 rfl) ?_
        obtain ⟨v748, e748, h⟩ := bnd h
        refine cLWp (av := [.ref (x 0), .int v127, .int v139]) (rest := []) (st1 := [.int v748.1]) (k1 := kc + 1) (k2 := kz + 6) (wr := wIA a5 cy 5 w5 ++ wIA a6 cy 40 w6 ++ wIA a7 cy 40 w7 ++ wIA a8 cy 5 g677 ++ wIA a9 cy 40 g720 ++ wIA a10 cy 40 g731) (wn := wSPo x ++ wFig (fun j => x (1 + j)) cy v748.2.1 ++ wFig (fun j => x (6 + j)) cy v748.2.2.1 ++ wP2 (fun j => x (11 + j)) cy v748.2.2.2 ++ wIA a5 cy 5 w5 ++ wIA a6 cy 40 w6 ++ wIA a7 cy 40 w7 ++ wIA a8 cy 5 g677 ++ wIA a9 cy 40 g720 ++ wIA a10 cy 40 g731 ++ wPF (fun j => x (11 + j)) cy (p_figs v748.2.2.2)) hx hb hml hown htg hN hK hX0 hNC (c_L_addHole l dC dI cy hlt x F D P v127 v139 v748 e748) ⟨gw418, gw419, gw6, cw_addHole⟩ hdS_L_addHole rfl ⟨⟨Nat.le_of_ble_eq_true rfl, Nat.le_of_ble_eq_true rfl⟩, (by show kc + 0 + 1 ≤ 600104; omega), (by show kz + 0 + 6 ≤ 7301314; omega)⟩ hP hD hS hA (perm_T (perm_ix 19 [0, 1, 2, 3, 4, 5, 6, 7, 8, 9, 10, 11, 12] [13, 14, 15, 16, 17, 18] rfl rfl rfl (by decide))) (perm_Tb (perm_ix 19 [13, 14, 15, 16, 17, 18] [0, 1, 2, 3, 4, 5, 6, 7, 8, 9, 10, 11, 12] rfl rfl rfl (by decide))) hl.1 rfl (Nat.le_of_ble_eq_true rfl) rfl (by show kc + 0 + 1 = kc + 1; omega) (by show kz + 0 + 6 = kz + 6; omega) dL_law_748 (fun H locs hP hD hS => ?_)
        refine lv_iload hx hb dL_law_751 (lv_at hl 4 rfl) ?_
        refine lv_bipush (v := 14) hx hb dL_law_753 (by decide) ?_
        obtain ⟨b755, e755, h⟩ := bnd h
        have hr782 : ∀ (H : Heap) (locs : List Loc) (ls : Array Slot), va_P (dC, dI) vwCl (wSPo x ++ wFig (fun j => x (1 + j)) cy v748.2.1 ++ wFig (fun j => x (6 + j)) cy v748.2.2.1 ++ wP2 (fun j => x (11 + j)) cy v748.2.2.2 ++ wIA a5 cy 5 w5 ++ wIA a6 cy 40 w6 ++ wIA a7 cy 40 w7 ++ wIA a8 cy 5 g677 ++ wIA a9 cy 40 g720 ++ wIA a10 cy 40 g731 ++ wPF (fun j => x (11 + j)) cy (p_figs v748.2.2.2)) H → va_D (lwA s) (wSPo x ++ wFig (fun j => x (1 + j)) cy v748.2.1 ++ wFig (fun j => x (6 + j)) cy v748.2.2.1 ++ wP2 (fun j => x (11 + j)) cy v748.2.2.2 ++ wIA a5 cy 5 w5 ++ wIA a6 cy 40 w6 ++ wIA a7 cy 40 w7 ++ wIA a8 cy 5 g677 ++ wIA a9 cy 40 g720 ++ wIA a10 cy 40 g731 ++ wPF (fun j => x (11 + j)) cy (p_figs v748.2.2.2)) → va_S (lwA s) s.heap H locs → lv_has ls 18 [(17, .int v738), (16, .int (10 * v662)), (15, .int ((10 * v100) + v115)), (14, .int v139), (13, .int v127), (12, .int v115), (11, .int v100), (10, .int v88), (9, .int v79), (8, .int l8_69), (0, .ref b), (1, .ref (x 0)), (2, .ref a5), (3, .ref a6), (4, .ref a7), (5, .ref a8), (6, .ref a9), (7, .ref a10)] → W p l e room_1 s mm #[Value.ref b] below meth cd H locs (kc + 1) (kz + 6) (lw_Z below #[Value.ref b] s) (F0 mm 782 ls [.int b755, .int v748.1]) := by
          intro H locs ls hP hD hS hl
          refine lv_icmp_eq (tgt := 787) hx hb dL_law_782 (by decide) (fun c782 => ?_) (fun c782 => ?_)
          · replace h := if_t h c782
            refine lv_iload hx hb dL_law_787 (lv_at hl 0 rfl) ?_
            refine lv_if_ne (tgt := 805) hx hb dL_law_789 (by decide) (fun c789 => ?_) (fun c789 => ?_)
            · replace h := if_f h c789
              refine W.widen (k := kc + 3) (n := kz + 18) (by omega) (by omega) ?_
              exact (law_j805 C1 hlt hN hNC hX0 hK hkc hkz ih) v748.2.1 v748.2.2.1 v748.2.2.2 w5 w6 w7 g677 g720 g731 v79 l8_69 H locs ls h hP hD hS (lv_sub hl [8, 9, 10, 11, 12, 13, 14, 15, 16, 17] rfl)
            replace h := if_t h c789
            refine lv_aload hx hb dL_law_792 (lv_at hl 15 rfl) ?_
            refine lv_aload hx hb dL_law_794 (lv_at hl 16 rfl) ?_
            refine lv_aload hx hb dL_law_796 (lv_at hl 17 rfl) ?_
            refine lv_aload_n hx hb dL_law_798 rfl (lv_at hl 12 rfl) ?_
            refine lv_aload_n hx hb dL_law_799 rfl (lv_at hl 13 rfl) ?_
            refine lv_aload hx hb dL_law_800 (lv_at hl 14 rfl) ?_
            obtain ⟨v802, e802, h⟩ := bnd h
            refine cSp (av := [.ref a8, .ref a9, .ref a10, .ref a5, .ref a6, .ref a7]) (rest := []) (st1 := []) (k1 := kc + 1) (k2 := kz + 6) (wr := wSPo x ++ wFig (fun j => x (1 + j)) cy v748.2.1 ++ wFig (fun j => x (6 + j)) cy v748.2.2.1 ++ wP2 (fun j => x (11 + j)) cy v748.2.2.2 ++ wPF (fun j => x (11 + j)) cy (p_figs v748.2.2.2)) (wn := wSPo x ++ wFig (fun j => x (1 + j)) cy v748.2.1 ++ wFig (fun j => x (6 + j)) cy v748.2.2.1 ++ wP2 (fun j => x (11 + j)) cy v748.2.2.2 ++ wIA a5 cy 5 v802.1 ++ wIA a6 cy 40 v802.2.1 ++ wIA a7 cy 40 v802.2.2 ++ wIA a8 cy 5 g677 ++ wIA a9 cy 40 g720 ++ wIA a10 cy 40 g731 ++ wPF (fun j => x (11 + j)) cy (p_figs v748.2.2.2)) hx hb hml hown htg hN hK (c_L_copy l dC dI cy a8 a9 a10 a5 a6 a7 5 40 40 5 40 40 g677 g720 g731 w5 w6 w7  v802 e802) (g_S gw603 gw604 gw6 gw605) hdS_L_copy rfl ⟨⟨Nat.le_of_ble_eq_true rfl, Nat.le_of_ble_eq_true rfl⟩, (by show kc + 1 + 0 ≤ 600104; omega), (by show kz + 6 + 0 ≤ 7301314; omega)⟩ hP hD hS hA (perm_N (perm_ix 19 [16, 17, 18, 13, 14, 15] [0, 1, 2, 3, 4, 5, 6, 7, 8, 9, 10, 11, 12] rfl rfl rfl (by decide))) (perm_Nb (perm_ix 19 [0, 1, 2, 3, 4, 5, 6, 7, 8, 9, 10, 11, 12] [16, 17, 18, 13, 14, 15] rfl rfl rfl (by decide))) hl.1 rfl (Nat.le_of_ble_eq_true rfl) rfl (by show kc + 1 + 0 = kc + 1; omega) (by show kz + 6 + 0 = kz + 6; omega) dL_law_802 (fun H locs hP hD hS => ?_)
            refine W.widen (k := kc + 3) (n := kz + 18) (by omega) (by omega) ?_
            exact (law_j805 C1 hlt hN hNC hX0 hK hkc hkz ih) v748.2.1 v748.2.2.1 v748.2.2.2 v802.1 v802.2.1 v802.2.2 g677 g720 g731 v79 l8_69 H locs ls h hP hD hS (lv_sub hl [8, 9, 10, 11, 12, 13, 14, 15, 16, 17] rfl)
          replace h := if_f h c782
          refine lv_iconst (v := 0) hx hb dL_law_785 (by decide) ?_
          exact absurd (Option.some.inj h) (by decide)
        have h := e755
        clear e755
        refine lv_icmp_gt (tgt := 765) hx hb dL_law_755 (by decide) (fun c755 => ?_) (fun c755 => ?_)
        · replace h := if_t h c755
          refine lv_iconst (v := (-1)) hx hb dL_law_765 (by decide) ?_
          refine lv_goto (tgt := 782) hx hb dL_law_766 (by decide) ?_
          obtain rfl := Option.some.inj h
          exact hr782 H locs ls hP hD hS hl
        replace h := if_f h c755
        refine lv_iload hx hb dL_law_758 (lv_at hl 3 rfl) ?_
        refine lv_bipush (v := 14) hx hb dL_law_760 (by decide) ?_
        refine lv_icmp_le (tgt := 769) hx hb dL_law_762 (by decide) (fun c762 => ?_) (fun c762 => ?_)
        · replace h := if_t h c762
          refine lv_iload hx hb dL_law_769 (lv_at hl 0 rfl) ?_
          refine lv_if_le (tgt := 779) hx hb dL_law_771 (by decide) (fun c771 => ?_) (fun c771 => ?_)
          · replace h := if_t h c771
            refine lv_aload_n hx hb dL_law_779 rfl (lv_at hl 12 rfl) ?_
            refine lv_iconst (v := 0) hx hb dL_law_780 (by decide) ?_
            obtain ⟨v781, e781, h⟩ := bnd h
            refine x_iald (v := v781) hx hb hK hP 13 0 rfl rfl e781 dL_law_781 ?_
            obtain rfl := Option.some.inj h
            exact hr782 H locs ls hP hD hS hl
          replace h := if_f h c771
          refine lv_bipush (v := (-2)) hx hb dL_law_774 (by decide) ?_
          refine lv_goto (tgt := 782) hx hb dL_law_776 (by decide) ?_
          obtain rfl := Option.some.inj h
          exact hr782 H locs ls hP hD hS hl
        replace h := if_f h c762
        refine lv_iconst (v := (-1)) hx hb dL_law_765 (by decide) ?_
        refine lv_goto (tgt := 782) hx hb dL_law_766 (by decide) ?_
        obtain rfl := Option.some.inj h
        exact hr782 H locs ls hP hD hS hl
      replace h := if_t h c474
      refine lv_aload_n hx hb dL_law_477 rfl (lv_at hl 10 rfl) ?_
      refine lv_iconst (v := 1) hx hb dL_law_478 (by decide) ?_
      refine lv_iload hx hb dL_law_479 (lv_at hl 4 rfl) ?_
      refine lv_iadd hx hb dL_law_481 ?_
      obtain ⟨v482, e482, h⟩ := bnd h
      refine x_iald (v := v482) hx hb hK hP 13 0 rfl rfl e482 dL_law_482 ?_
      refine lv_iconst (v := 3) hx hb dL_law_483 (by decide) ?_
      obtain ⟨b484, e484, h⟩ := bnd h
      have hr492 : ∀ (H : Heap) (locs : List Loc) (ls : Array Slot), va_P (dC, dI) vwCl (wSPo x ++ wFig (fun j => x (1 + j)) cy F ++ wFig (fun j => x (6 + j)) cy D ++ wP2 (fun j => x (11 + j)) cy P ++ wIA a5 cy 5 w5 ++ wIA a6 cy 40 w6 ++ wIA a7 cy 40 w7 ++ wIA a8 cy 5 v164.1 ++ wIA a9 cy 40 v164.2.1 ++ wIA a10 cy 40 v164.2.2 ++ wPF (fun j => x (11 + j)) cy (p_figs P)) H → va_D (lwA s) (wSPo x ++ wFig (fun j => x (1 + j)) cy F ++ wFig (fun j => x (6 + j)) cy D ++ wP2 (fun j => x (11 + j)) cy P ++ wIA a5 cy 5 w5 ++ wIA a6 cy 40 w6 ++ wIA a7 cy 40 w7 ++ wIA a8 cy 5 v164.1 ++ wIA a9 cy 40 v164.2.1 ++ wIA a10 cy 40 v164.2.2 ++ wPF (fun j => x (11 + j)) cy (p_figs P)) → va_S (lwA s) s.heap H locs → lv_has ls 18 [(15, .int ((10 * v100) + v115)), (14, .int v139), (13, .int v127), (12, .int v115), (11, .int v100), (10, .int v88), (9, .int v79), (8, .int l8_69), (0, .ref b), (1, .ref (x 0)), (2, .ref a5), (3, .ref a6), (4, .ref a7), (5, .ref a8), (6, .ref a9), (7, .ref a10)] → W p l e room_1 s mm #[Value.ref b] below meth cd H locs (kc + 0) (kz + 0) (lw_Z below #[Value.ref b] s) (F0 mm 492 ls [.int b484]) := by
        intro H locs ls hP hD hS hl
        refine lv_istore (lv' := [(16, .int b484), (15, .int ((10 * v100) + v115)), (14, .int v139), (13, .int v127), (12, .int v115), (11, .int v100), (10, .int v88), (9, .int v79), (8, .int l8_69), (0, .ref b), (1, .ref (x 0)), (2, .ref a5), (3, .ref a6), (4, .ref a7), (5, .ref a8), (6, .ref a9), (7, .ref a10)]) hx hb dL_law_492 hl (by decide) rfl (fun ls hl => ?_)
        refine lv_iload hx hb dL_law_494 (lv_at hl 1 rfl) ?_
        refine lv_istore (lv' := [(17, .int ((10 * v100) + v115)), (16, .int b484), (15, .int ((10 * v100) + v115)), (14, .int v139), (13, .int v127), (12, .int v115), (11, .int v100), (10, .int v88), (9, .int v79), (8, .int l8_69), (0, .ref b), (1, .ref (x 0)), (2, .ref a5), (3, .ref a6), (4, .ref a7), (5, .ref a8), (6, .ref a9), (7, .ref a10)]) hx hb dL_law_496 hl (by decide) rfl (fun ls hl => ?_)
        exact (law_L498 C1 hlt hN hNC hX0 hK hkc hkz ih) FU F D P w5 w6 w7 v164.1 v164.2.1 v164.2.2 ((10 * v100) + v115) b484 v115 v100 v79 l8_69 H locs ls h hP hD hS (lv_sub hl [0, 1, 5, 6, 8, 9, 10, 11, 12, 13, 14, 15, 16, 17] rfl)
      have h := e484
      clear e484
      refine lv_icmp_ne (tgt := 491) hx hb dL_law_484 (by decide) (fun c484 => ?_) (fun c484 => ?_)
      · replace h := if_f h c484
        refine lv_iconst (v := 0) hx hb dL_law_491 (by decide) ?_
        obtain rfl := Option.some.inj h
        exact hr492 H locs ls hP hD hS hl
      replace h := if_t h c484
      refine lv_iconst (v := 1) hx hb dL_law_487 (by decide) ?_
      refine lv_goto (tgt := 492) hx hb dL_law_488 (by decide) ?_
      obtain rfl := Option.some.inj h
      exact hr492 H locs ls hP hD hS hl
    replace h := if_f h c276
    refine lv_aload_n hx hb dL_law_279 rfl (lv_at hl 10 rfl) ?_
    refine lv_iconst (v := 1) hx hb dL_law_280 (by decide) ?_
    refine lv_iload hx hb dL_law_281 (lv_at hl 4 rfl) ?_
    refine lv_iadd hx hb dL_law_283 ?_
    obtain ⟨v284, e284, h⟩ := bnd h
    refine x_iald (v := v284) hx hb hK hP 13 0 rfl rfl e284 dL_law_284 ?_
    refine lv_bipush (v := 10) hx hb dL_law_285 (by decide) ?_
    obtain ⟨b287, e287, h⟩ := bnd h
    have hr295 : ∀ (H : Heap) (locs : List Loc) (ls : Array Slot), va_P (dC, dI) vwCl (wSPo x ++ wFig (fun j => x (1 + j)) cy F ++ wFig (fun j => x (6 + j)) cy D ++ wP2 (fun j => x (11 + j)) cy P ++ wIA a5 cy 5 w5 ++ wIA a6 cy 40 w6 ++ wIA a7 cy 40 w7 ++ wIA a8 cy 5 v164.1 ++ wIA a9 cy 40 v164.2.1 ++ wIA a10 cy 40 v164.2.2 ++ wPF (fun j => x (11 + j)) cy (p_figs P)) H → va_D (lwA s) (wSPo x ++ wFig (fun j => x (1 + j)) cy F ++ wFig (fun j => x (6 + j)) cy D ++ wP2 (fun j => x (11 + j)) cy P ++ wIA a5 cy 5 w5 ++ wIA a6 cy 40 w6 ++ wIA a7 cy 40 w7 ++ wIA a8 cy 5 v164.1 ++ wIA a9 cy 40 v164.2.1 ++ wIA a10 cy 40 v164.2.2 ++ wPF (fun j => x (11 + j)) cy (p_figs P)) → va_S (lwA s) s.heap H locs → lv_has ls 18 [(15, .int ((10 * v100) + v115)), (14, .int v139), (13, .int v127), (12, .int v115), (11, .int v100), (10, .int v88), (9, .int v79), (8, .int l8_69), (0, .ref b), (1, .ref (x 0)), (2, .ref a5), (3, .ref a6), (4, .ref a7), (5, .ref a8), (6, .ref a9), (7, .ref a10)] → W p l e room_1 s mm #[Value.ref b] below meth cd H locs (kc + 0) (kz + 0) (lw_Z below #[Value.ref b] s) (F0 mm 295 ls [.int b287]) := by
      intro H locs ls hP hD hS hl
      refine lv_istore (lv' := [(16, .int b287), (15, .int ((10 * v100) + v115)), (14, .int v139), (13, .int v127), (12, .int v115), (11, .int v100), (10, .int v88), (9, .int v79), (8, .int l8_69), (0, .ref b), (1, .ref (x 0)), (2, .ref a5), (3, .ref a6), (4, .ref a7), (5, .ref a8), (6, .ref a9), (7, .ref a10)]) hx hb dL_law_295 hl (by decide) rfl (fun ls hl => ?_)
      refine lv_bipush (v := 10) hx hb dL_law_297 (by decide) ?_
      refine lv_iload hx hb dL_law_299 (lv_at hl 5 rfl) ?_
      refine lv_imul hx hb dL_law_301 ?_
      refine lv_aload_n hx hb dL_law_302 rfl (lv_at hl 11 rfl) ?_
      refine lv_iconst (v := 1) hx hb dL_law_303 (by decide) ?_
      refine lv_iload hx hb dL_law_304 (lv_at hl 5 rfl) ?_
      refine lv_iadd hx hb dL_law_306 ?_
      obtain ⟨v307, e307, h⟩ := bnd h
      refine x_iald (v := v307) hx hb hK hP 13 0 rfl rfl e307 dL_law_307 ?_
      refine lv_iadd hx hb dL_law_308 ?_
      refine lv_istore (lv' := [(17, .int ((10 * v100) + v307)), (16, .int b287), (15, .int ((10 * v100) + v115)), (14, .int v139), (13, .int v127), (12, .int v115), (11, .int v100), (10, .int v88), (9, .int v79), (8, .int l8_69), (0, .ref b), (1, .ref (x 0)), (2, .ref a5), (3, .ref a6), (4, .ref a7), (5, .ref a8), (6, .ref a9), (7, .ref a10)]) hx hb dL_law_309 hl (by decide) rfl (fun ls hl => ?_)
      exact (law_L311 C1 hlt hN hNC hX0 hK hkc hkz ih) FU F D P w5 w6 w7 v164.1 v164.2.1 v164.2.2 ((10 * v100) + v307) b287 ((10 * v100) + v115) v139 v127 v115 v100 v79 l8_69 H locs ls h hP hD hS (lv_sub hl [0, 1, 2, 3, 4, 5, 6, 8, 9, 10, 11, 12, 13, 14, 15, 16, 17] rfl)
    have h := e287
    clear e287
    refine lv_icmp_ne (tgt := 294) hx hb dL_law_287 (by decide) (fun c287 => ?_) (fun c287 => ?_)
    · replace h := if_f h c287
      refine lv_iconst (v := 0) hx hb dL_law_294 (by decide) ?_
      obtain rfl := Option.some.inj h
      exact hr295 H locs ls hP hD hS hl
    replace h := if_t h c287
    refine lv_iconst (v := 1) hx hb dL_law_290 (by decide) ?_
    refine lv_goto (tgt := 295) hx hb dL_law_291 (by decide) ?_
    obtain rfl := Option.some.inj h
    exact hr295 H locs ls hP hD hS hl
  replace h := if_f h c170
  refine lv_aload hx hb dL_law_173 (lv_at hl 14 rfl) ?_
  refine lv_iload hx hb dL_law_175 (lv_at hl 0 rfl) ?_
  refine lv_iload hx hb dL_law_177 (lv_at hl 2 rfl) ?_
  obtain ⟨g179, e179, h⟩ := bnd h
  refine x_iast (g := g179) hx hb hK hP hD hS 17 0 rfl rfl e179 dL_law_179 (fun H locs hP hD hS => ?_)
  have hP : va_P (dC, dI) vwCl (wSPo x ++ wFig (fun j => x (1 + j)) cy F ++ wFig (fun j => x (6 + j)) cy D ++ wP2 (fun j => x (11 + j)) cy P ++ wIA a5 cy 5 w5 ++ wIA a6 cy 40 w6 ++ wIA a7 cy 40 w7 ++ wIA a8 cy 5 v164.1 ++ wIA a9 cy 40 g179 ++ wIA a10 cy 40 v164.2.2 ++ wPF (fun j => x (11 + j)) cy (p_figs P)) H := hP
  have hD : va_D (lwA s) (wSPo x ++ wFig (fun j => x (1 + j)) cy F ++ wFig (fun j => x (6 + j)) cy D ++ wP2 (fun j => x (11 + j)) cy P ++ wIA a5 cy 5 w5 ++ wIA a6 cy 40 w6 ++ wIA a7 cy 40 w7 ++ wIA a8 cy 5 v164.1 ++ wIA a9 cy 40 g179 ++ wIA a10 cy 40 v164.2.2 ++ wPF (fun j => x (11 + j)) cy (p_figs P)) := hD
  refine lv_aload hx hb dL_law_180 (lv_at hl 15 rfl) ?_
  refine lv_iload hx hb dL_law_182 (lv_at hl 0 rfl) ?_
  refine lv_iload hx hb dL_law_184 (lv_at hl 1 rfl) ?_
  obtain ⟨g186, e186, h⟩ := bnd h
  refine x_iast (g := g186) hx hb hK hP hD hS 18 0 rfl rfl e186 dL_law_186 (fun H locs hP hD hS => ?_)
  have hP : va_P (dC, dI) vwCl (wSPo x ++ wFig (fun j => x (1 + j)) cy F ++ wFig (fun j => x (6 + j)) cy D ++ wP2 (fun j => x (11 + j)) cy P ++ wIA a5 cy 5 w5 ++ wIA a6 cy 40 w6 ++ wIA a7 cy 40 w7 ++ wIA a8 cy 5 v164.1 ++ wIA a9 cy 40 g179 ++ wIA a10 cy 40 g186 ++ wPF (fun j => x (11 + j)) cy (p_figs P)) H := hP
  have hD : va_D (lwA s) (wSPo x ++ wFig (fun j => x (1 + j)) cy F ++ wFig (fun j => x (6 + j)) cy D ++ wP2 (fun j => x (11 + j)) cy P ++ wIA a5 cy 5 w5 ++ wIA a6 cy 40 w6 ++ wIA a7 cy 40 w7 ++ wIA a8 cy 5 v164.1 ++ wIA a9 cy 40 g179 ++ wIA a10 cy 40 g186 ++ wPF (fun j => x (11 + j)) cy (p_figs P)) := hD
  refine lv_aload hx hb dL_law_187 (lv_at hl 13 rfl) ?_
  refine lv_aload hx hb dL_law_189 (lv_at hl 14 rfl) ?_
  refine lv_aload hx hb dL_law_191 (lv_at hl 15 rfl) ?_
  obtain ⟨v193, e193, h⟩ := bnd h
  refine cSp (av := [.ref a8, .ref a9, .ref a10]) (rest := []) (st1 := [.int v193]) (k1 := kc + 0) (k2 := kz + 0) (wr := wSPo x ++ wFig (fun j => x (1 + j)) cy F ++ wFig (fun j => x (6 + j)) cy D ++ wP2 (fun j => x (11 + j)) cy P ++ wIA a5 cy 5 w5 ++ wIA a6 cy 40 w6 ++ wIA a7 cy 40 w7 ++ wPF (fun j => x (11 + j)) cy (p_figs P)) (wn := wSPo x ++ wFig (fun j => x (1 + j)) cy F ++ wFig (fun j => x (6 + j)) cy D ++ wP2 (fun j => x (11 + j)) cy P ++ wIA a5 cy 5 w5 ++ wIA a6 cy 40 w6 ++ wIA a7 cy 40 w7 ++ wIA a8 cy 5 v164.1 ++ wIA a9 cy 40 g179 ++ wIA a10 cy 40 g186 ++ wPF (fun j => x (11 + j)) cy (p_figs P)) hx hb hml hown htg hN hK (c_L_broken l dC dI cy a8 a9 a10 5 40 40 v164.1 g179 g186  v193 e193) (g_S gw450 gw451 gw6 gw452) hdS_L_broken rfl ⟨⟨Nat.le_of_ble_eq_true rfl, Nat.le_of_ble_eq_true rfl⟩, (by show kc + 0 + 0 ≤ 600104; omega), (by show kz + 0 + 0 ≤ 7301314; omega)⟩ hP hD hS hA (perm_N (perm_ix 19 [16, 17, 18] [0, 1, 2, 3, 4, 5, 6, 7, 8, 9, 10, 11, 12, 13, 14, 15] rfl rfl rfl (by decide))) (perm_Nb (perm_ix 19 [0, 1, 2, 3, 4, 5, 6, 7, 8, 9, 10, 11, 12, 13, 14, 15] [16, 17, 18] rfl rfl rfl (by decide))) hl.1 rfl (Nat.le_of_ble_eq_true rfl) rfl (by show kc + 0 + 0 = kc + 0; omega) (by show kz + 0 + 0 = kz + 0; omega) dL_law_193 (fun H locs hP hD hS => ?_)
  refine lv_istore (lv' := [(16, .int v193), (15, .int ((10 * v100) + v115)), (14, .int v139), (13, .int v127), (12, .int v115), (11, .int v100), (10, .int v88), (9, .int v79), (8, .int l8_69), (0, .ref b), (1, .ref (x 0)), (2, .ref a5), (3, .ref a6), (4, .ref a7), (5, .ref a8), (6, .ref a9), (7, .ref a10)]) hx hb dL_law_196 hl (by decide) rfl (fun ls hl => ?_)
  refine lv_aload_n hx hb dL_law_198 rfl (lv_at hl 10 rfl) ?_
  refine lv_iload hx hb dL_law_199 (lv_at hl 5 rfl) ?_
  refine lv_iload hx hb dL_law_201 (lv_at hl 4 rfl) ?_
  refine lv_iload hx hb dL_law_203 (lv_at hl 3 rfl) ?_
  refine lv_iload hx hb dL_law_205 (lv_at hl 2 rfl) ?_
  obtain ⟨v207, e207, h⟩ := bnd h
  rcases hv207 : v207.1 with k207 | u207
  · simp only [hv207] at h
    cases h
  simp only [hv207] at h
  refine cXVp (av := [.int v100, .int v115, .int v127, .int v139]) (rest := []) (k1 := kc + 1) (k2 := kz + 6) (wn := wSPo x ++ wFig (fun j => x (1 + j)) cy F ++ wFig (fun j => x (6 + j)) cy v207.2 ++ wP2 (fun j => x (11 + j)) cy P ++ wIA a5 cy 5 w5 ++ wIA a6 cy 40 w6 ++ wIA a7 cy 40 w7 ++ wIA a8 cy 5 v164.1 ++ wIA a9 cy 40 g179 ++ wIA a10 cy 40 g186 ++ wPF (fun j => x (11 + j)) cy (p_figs P)) (ci := 3) (q0 := 0) hx hb hml hown htg hN hK hX0 (c_X8_whyNot l dC dI cy hlt x F D v100 v115 v127 v139 v207 e207) (g_V gw155 gw156 gw157 gw7 gw158) hdV_X8_whyNot rfl ⟨⟨Nat.le_of_ble_eq_true rfl, Nat.le_of_ble_eq_true rfl⟩, (by show kc + 0 + 1 ≤ 600104; omega), (by show kz + 0 + 6 ≤ 7301314; omega)⟩ hP hD hS hA ⟨rfl, rfl⟩ rfl (perm_N (perm_ix 19 [0, 1, 2, 3, 4, 5, 6, 7, 8, 9, 10] [11, 12, 13, 14, 15, 16, 17, 18] rfl rfl rfl (by decide))) (perm_Nb (perm_ix 19 [11, 12, 13, 14, 15, 16, 17, 18] [0, 1, 2, 3, 4, 5, 6, 7, 8, 9, 10] rfl rfl rfl (by decide))) hl.1 rfl (Nat.le_of_ble_eq_true rfl) (by show kc + 0 + 1 = kc + 1; omega) (by show kz + 0 + 6 = kz + 6; omega) dL_law_207 (fun H locs ret ho hP hD hS => ?_) (fun H locs k q ce ho hP hD hS h1 h2 h3 => ?_)
  rotate_left
  · rw [hv207] at ho; cases ho
  rw [hv207] at ho
  obtain rfl := Sum.inr.inj ho
  refine W.eq (g2 := F0 mm 210 ls [.int u207]) rfl ?_
  refine lv_iload hx hb dL_law_210 (lv_at hl 0 rfl) ?_
  refine lv_icmp_ne (tgt := 249) hx hb dL_law_212 (by decide) (fun c212 => ?_) (fun c212 => ?_)
  · replace h := if_f h c212
    refine lv_iconst (v := 0) hx hb dL_law_249 (by decide) ?_
    exact absurd (Option.some.inj h) (by decide)
  replace h := if_t h c212
  refine lv_aload_n hx hb dL_law_215 rfl (lv_at hl 10 rfl) ?_
  refine lv_iload hx hb dL_law_216 (lv_at hl 5 rfl) ?_
  refine lv_iload hx hb dL_law_218 (lv_at hl 4 rfl) ?_
  refine lv_iload hx hb dL_law_220 (lv_at hl 3 rfl) ?_
  refine lv_iload hx hb dL_law_222 (lv_at hl 2 rfl) ?_
  obtain ⟨v224, e224, h⟩ := bnd h
  refine cLWp (av := [.ref (x 0), .int v100, .int v115, .int v127, .int v139]) (rest := []) (st1 := [.int v224.1]) (k1 := kc + 3) (k2 := kz + 18) (wr := wIA a5 cy 5 w5 ++ wIA a6 cy 40 w6 ++ wIA a7 cy 40 w7 ++ wIA a8 cy 5 v164.1 ++ wIA a9 cy 40 g179 ++ wIA a10 cy 40 g186) (wn := wSPo x ++ wFig (fun j => x (1 + j)) cy v224.2.1 ++ wFig (fun j => x (6 + j)) cy v224.2.2.1 ++ wP2 (fun j => x (11 + j)) cy v224.2.2.2 ++ wIA a5 cy 5 w5 ++ wIA a6 cy 40 w6 ++ wIA a7 cy 40 w7 ++ wIA a8 cy 5 v164.1 ++ wIA a9 cy 40 g179 ++ wIA a10 cy 40 g186 ++ wPF (fun j => x (11 + j)) cy (p_figs v224.2.2.2)) hx hb hml hown htg hN hK hX0 hNC (c_L_move l dC dI cy hlt x F v207.2 P v100 v115 v127 v139 v224 e224) ⟨gw324, gw325, gw6, cw_move⟩ hdS_L_move rfl ⟨⟨Nat.le_of_ble_eq_true rfl, Nat.le_of_ble_eq_true rfl⟩, (by show kc + 1 + 2 ≤ 600104; omega), (by show kz + 6 + 12 ≤ 7301314; omega)⟩ hP hD hS hA (perm_T (perm_ix 19 [0, 1, 2, 3, 4, 5, 6, 7, 8, 9, 10, 11, 12] [13, 14, 15, 16, 17, 18] rfl rfl rfl (by decide))) (perm_Tb (perm_ix 19 [13, 14, 15, 16, 17, 18] [0, 1, 2, 3, 4, 5, 6, 7, 8, 9, 10, 11, 12] rfl rfl rfl (by decide))) hl.1 rfl (Nat.le_of_ble_eq_true rfl) rfl (by show kc + 1 + 2 = kc + 3; omega) (by show kz + 6 + 12 = kz + 18; omega) dL_law_224 (fun H locs hP hD hS => ?_)
  refine lv_iload hx hb dL_law_227 (lv_at hl 0 rfl) ?_
  obtain ⟨b229, e229, h⟩ := bnd h
  have hr246 : ∀ (H : Heap) (locs : List Loc) (ls : Array Slot), va_P (dC, dI) vwCl (wSPo x ++ wFig (fun j => x (1 + j)) cy v224.2.1 ++ wFig (fun j => x (6 + j)) cy v224.2.2.1 ++ wP2 (fun j => x (11 + j)) cy v224.2.2.2 ++ wIA a5 cy 5 w5 ++ wIA a6 cy 40 w6 ++ wIA a7 cy 40 w7 ++ wIA a8 cy 5 v164.1 ++ wIA a9 cy 40 g179 ++ wIA a10 cy 40 g186 ++ wPF (fun j => x (11 + j)) cy (p_figs v224.2.2.2)) H → va_D (lwA s) (wSPo x ++ wFig (fun j => x (1 + j)) cy v224.2.1 ++ wFig (fun j => x (6 + j)) cy v224.2.2.1 ++ wP2 (fun j => x (11 + j)) cy v224.2.2.2 ++ wIA a5 cy 5 w5 ++ wIA a6 cy 40 w6 ++ wIA a7 cy 40 w7 ++ wIA a8 cy 5 v164.1 ++ wIA a9 cy 40 g179 ++ wIA a10 cy 40 g186 ++ wPF (fun j => x (11 + j)) cy (p_figs v224.2.2.2)) → va_S (lwA s) s.heap H locs → lv_has ls 18 [(16, .int v193), (15, .int ((10 * v100) + v115)), (14, .int v139), (13, .int v127), (12, .int v115), (11, .int v100), (10, .int v88), (9, .int v79), (8, .int l8_69), (0, .ref b), (1, .ref (x 0)), (2, .ref a5), (3, .ref a6), (4, .ref a7), (5, .ref a8), (6, .ref a9), (7, .ref a10)] → W p l e room_1 s mm #[Value.ref b] below meth cd H locs (kc + 3) (kz + 18) (lw_Z below #[Value.ref b] s) (F0 mm 246 ls [.int b229, .int v224.1]) := by
    intro H locs ls hP hD hS hl
    refine lv_icmp_eq (tgt := 251) hx hb dL_law_246 (by decide) (fun c246 => ?_) (fun c246 => ?_)
    · replace h := if_t h c246
      refine lv_iload hx hb dL_law_251 (lv_at hl 0 rfl) ?_
      refine lv_if_ne (tgt := 269) hx hb dL_law_253 (by decide) (fun c253 => ?_) (fun c253 => ?_)
      · replace h := if_f h c253
        exact (law_j269 C1 hlt hN hNC hX0 hK hkc hkz ih) v224.2.1 v224.2.2.1 v224.2.2.2 w5 w6 w7 v164.1 g179 g186 v79 l8_69 H locs ls h hP hD hS (lv_sub hl [7, 8, 9, 10, 11, 12, 13, 14, 15, 16] rfl)
      replace h := if_t h c253
      refine lv_aload hx hb dL_law_256 (lv_at hl 14 rfl) ?_
      refine lv_aload hx hb dL_law_258 (lv_at hl 15 rfl) ?_
      refine lv_aload hx hb dL_law_260 (lv_at hl 16 rfl) ?_
      refine lv_aload_n hx hb dL_law_262 rfl (lv_at hl 11 rfl) ?_
      refine lv_aload_n hx hb dL_law_263 rfl (lv_at hl 12 rfl) ?_
      refine lv_aload hx hb dL_law_264 (lv_at hl 13 rfl) ?_
      obtain ⟨v266, e266, h⟩ := bnd h
      refine cSp (av := [.ref a8, .ref a9, .ref a10, .ref a5, .ref a6, .ref a7]) (rest := []) (st1 := []) (k1 := kc + 3) (k2 := kz + 18) (wr := wSPo x ++ wFig (fun j => x (1 + j)) cy v224.2.1 ++ wFig (fun j => x (6 + j)) cy v224.2.2.1 ++ wP2 (fun j => x (11 + j)) cy v224.2.2.2 ++ wPF (fun j => x (11 + j)) cy (p_figs v224.2.2.2)) (wn := wSPo x ++ wFig (fun j => x (1 + j)) cy v224.2.1 ++ wFig (fun j => x (6 + j)) cy v224.2.2.1 ++ wP2 (fun j => x (11 + j)) cy v224.2.2.2 ++ wIA a5 cy 5 v266.1 ++ wIA a6 cy 40 v266.2.1 ++ wIA a7 cy 40 v266.2.2 ++ wIA a8 cy 5 v164.1 ++ wIA a9 cy 40 g179 ++ wIA a10 cy 40 g186 ++ wPF (fun j => x (11 + j)) cy (p_figs v224.2.2.2)) hx hb hml hown htg hN hK (c_L_copy l dC dI cy a8 a9 a10 a5 a6 a7 5 40 40 5 40 40 v164.1 g179 g186 w5 w6 w7  v266 e266) (g_S gw603 gw604 gw6 gw605) hdS_L_copy rfl ⟨⟨Nat.le_of_ble_eq_true rfl, Nat.le_of_ble_eq_true rfl⟩, (by show kc + 3 + 0 ≤ 600104; omega), (by show kz + 18 + 0 ≤ 7301314; omega)⟩ hP hD hS hA (perm_N (perm_ix 19 [16, 17, 18, 13, 14, 15] [0, 1, 2, 3, 4, 5, 6, 7, 8, 9, 10, 11, 12] rfl rfl rfl (by decide))) (perm_Nb (perm_ix 19 [0, 1, 2, 3, 4, 5, 6, 7, 8, 9, 10, 11, 12] [16, 17, 18, 13, 14, 15] rfl rfl rfl (by decide))) hl.1 rfl (Nat.le_of_ble_eq_true rfl) rfl (by show kc + 3 + 0 = kc + 3; omega) (by show kz + 18 + 0 = kz + 18; omega) dL_law_266 (fun H locs hP hD hS => ?_)
      exact (law_j269 C1 hlt hN hNC hX0 hK hkc hkz ih) v224.2.1 v224.2.2.1 v224.2.2.2 v266.1 v266.2.1 v266.2.2 v164.1 g179 g186 v79 l8_69 H locs ls h hP hD hS (lv_sub hl [7, 8, 9, 10, 11, 12, 13, 14, 15, 16] rfl)
    replace h := if_f h c246
    refine lv_iconst (v := 0) hx hb dL_law_249 (by decide) ?_
    exact absurd (Option.some.inj h) (by decide)
  have h := e229
  clear e229
  refine lv_if_le (tgt := 237) hx hb dL_law_229 (by decide) (fun c229 => ?_) (fun c229 => ?_)
  · replace h := if_t h c229
    refine lv_aload hx hb dL_law_237 (lv_at hl 14 rfl) ?_
    refine lv_aload hx hb dL_law_239 (lv_at hl 15 rfl) ?_
    refine lv_aload hx hb dL_law_241 (lv_at hl 16 rfl) ?_
    obtain ⟨v243, e243, h⟩ := bnd h
    refine cSp (av := [.ref a8, .ref a9, .ref a10]) (rest := [.int v224.1]) (st1 := [.int v243, .int v224.1]) (k1 := kc + 3) (k2 := kz + 18) (wr := wSPo x ++ wFig (fun j => x (1 + j)) cy v224.2.1 ++ wFig (fun j => x (6 + j)) cy v224.2.2.1 ++ wP2 (fun j => x (11 + j)) cy v224.2.2.2 ++ wIA a5 cy 5 w5 ++ wIA a6 cy 40 w6 ++ wIA a7 cy 40 w7 ++ wPF (fun j => x (11 + j)) cy (p_figs v224.2.2.2)) (wn := wSPo x ++ wFig (fun j => x (1 + j)) cy v224.2.1 ++ wFig (fun j => x (6 + j)) cy v224.2.2.1 ++ wP2 (fun j => x (11 + j)) cy v224.2.2.2 ++ wIA a5 cy 5 w5 ++ wIA a6 cy 40 w6 ++ wIA a7 cy 40 w7 ++ wIA a8 cy 5 v164.1 ++ wIA a9 cy 40 g179 ++ wIA a10 cy 40 g186 ++ wPF (fun j => x (11 + j)) cy (p_figs v224.2.2.2)) hx hb hml hown htg hN hK (c_L_area l dC dI cy a8 a9 a10 5 40 40 v164.1 g179 g186  v243 e243) (g_S gw471 gw472 gw6 gw473) hdS_L_area rfl ⟨⟨Nat.le_of_ble_eq_true rfl, Nat.le_of_ble_eq_true rfl⟩, (by show kc + 3 + 0 ≤ 600104; omega), (by show kz + 18 + 0 ≤ 7301314; omega)⟩ hP hD hS hA (perm_N (perm_ix 19 [16, 17, 18] [0, 1, 2, 3, 4, 5, 6, 7, 8, 9, 10, 11, 12, 13, 14, 15] rfl rfl rfl (by decide))) (perm_Nb (perm_ix 19 [0, 1, 2, 3, 4, 5, 6, 7, 8, 9, 10, 11, 12, 13, 14, 15] [16, 17, 18] rfl rfl rfl (by decide))) hl.1 rfl (Nat.le_of_ble_eq_true rfl) rfl (by show kc + 3 + 0 = kc + 3; omega) (by show kz + 18 + 0 = kz + 18; omega) dL_law_243 (fun H locs hP hD hS => ?_)
    obtain rfl := Option.some.inj h
    exact hr246 H locs ls hP hD hS hl
  replace h := if_f h c229
  refine lv_bipush (v := (-2)) hx hb dL_law_232 (by decide) ?_
  refine lv_goto (tgt := 246) hx hb dL_law_234 (by decide) ?_
  obtain rfl := Option.some.inj h
  exact hr246 H locs ls hP hD hS hl
