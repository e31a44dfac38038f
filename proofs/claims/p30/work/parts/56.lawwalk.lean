set_option maxHeartbeats 8000000 in
set_option maxRecDepth 100000 in
theorem law_walk {p : Program} {l : Launch} {e : Env} {s : State} {mm : MethodId} {below : List Frame} {meth : Method} {cd : Code} {dC : Nat → ClassId} {dI : Nat → Nat → Nat} {cy : Nat → ClassId} {b L : Nat} {xs : Nat → Int32} (C0 : lw_At p s mm meth cd b L xs) (hlt : l.stackTraces = false) (hN : NW s) (hNC : NC s) (hX0 : EX (lwA s) s s.heap) (hK : va_K (dC, dI) vwCl (TY cy) s) {x : Nat → Nat} {a5 a6 a7 a8 a9 a10 : Nat} :
    ∀ (n69 : Nat) (kc kz : Nat) (F : Fig) (D : Fig) (P : PastS) (w5 : Nat → Int32) (w6 : Nat → Int32) (w7 : Nat → Int32) (w8 : Nat → Int32) (w9 : Nat → Int32) (w10 : Nat → Int32) (l8_69 : Int32) (H : Heap) (locs : List Loc) (ls : Array Slot), kc + 3 * n69 ≤ 600104 → kz + 18 * n69 ≤ 7301314 → G_L_law_L69 L xs n69 F D P w5 w6 w7 w8 w9 w10 l8_69 = some 1 → va_P (dC, dI) vwCl (wSPo x ++ wFig (fun j => x (1 + j)) cy F ++ wFig (fun j => x (6 + j)) cy D ++ wP2 (fun j => x (11 + j)) cy P ++ wIA a5 cy 5 w5 ++ wIA a6 cy 40 w6 ++ wIA a7 cy 40 w7 ++ wIA a8 cy 5 w8 ++ wIA a9 cy 40 w9 ++ wIA a10 cy 40 w10 ++ wPF (fun j => x (11 + j)) cy (p_figs P)) H → va_D (lwA s) (wSPo x ++ wFig (fun j => x (1 + j)) cy F ++ wFig (fun j => x (6 + j)) cy D ++ wP2 (fun j => x (11 + j)) cy P ++ wIA a5 cy 5 w5 ++ wIA a6 cy 40 w6 ++ wIA a7 cy 40 w7 ++ wIA a8 cy 5 w8 ++ wIA a9 cy 40 w9 ++ wIA a10 cy 40 w10 ++ wPF (fun j => x (11 + j)) cy (p_figs P)) → va_S (lwA s) s.heap H locs → lv_has ls 18 [(8, .int l8_69), (0, .ref b), (1, .ref (x 0)), (2, .ref a5), (3, .ref a6), (4, .ref a7), (5, .ref a8), (6, .ref a9), (7, .ref a10)] → W p l e room_1 s mm #[Value.ref b] below meth cd H locs kc kz (lw_Z below #[Value.ref b] s) (F0 mm 69 ls []) := by
  obtain ⟨hx, hb, hr, hml, hown, hts, hXs, hbl, hlocks, hgv⟩ := C0
  have htg : ∀ w ∈ GW, w.before #[Value.ref b] s = true := fun w hw => hts w (List.mem_filter.mp hw).1
  have hA : ∀ q : Nat, s.heap.size ≤ q → lwA s q := fun _ h => h
  have hbA : ¬ lwA s b := Nat.not_le.mpr hbl
  intro n69
  induction n69 with
  | zero => intro kc kz F D P w5 w6 w7 w8 w9 w10 l8_69 H locs ls hkc hkz h; exact absurd h (by simp [G_L_law_L69])
  | succ n69 ih69 =>
    intro kc kz F D P w5 w6 w7 w8 w9 w10 l8_69 H locs ls hkc hkz h hP hD hS hl
    rw [G_L_law_L69] at h
    refine lv_iload hx hb dL_law_69 (lv_at hl 0 rfl) ?_
    refine lv_bipush (v := 12) hx hb dL_law_71 (by decide) ?_
    refine lv_icmp_ge (tgt := 834) hx hb dL_law_73 (by decide) (fun c73 => ?_) (fun c73 => ?_)
    · replace h := if_t h c73
      refine lv_iconst (v := 1) hx hb dL_law_834 (by decide) ?_
      refine va_forget (fun q hq => hS.2.2 q hq) ?_
      refine W.widen (k := 600104) (n := 7301314) (by omega) (by omega) ?_
      exact lw_ret hx hb hr hlocks dL_law_835
    replace h := if_f h c73
    refine lv_aload_n hx hb dL_law_76 rfl (lv_at hl 1 rfl) ?_
    refine lv_iload hx hb dL_law_77 (lv_at hl 0 rfl) ?_
    obtain ⟨v79, e79, h⟩ := bnd h
    refine cScr (rest := []) (st1 := [.int v79]) (k1 := kc + 0) (k2 := kz + 0) hx hb hml hown htg hN hK hXs hbl hbA (k_L_cell l dC dI cy b L xs l8_69 v79 e79) (g_S gw315 gw316 gw6 gw317) hdS_L_cell rfl ⟨⟨Nat.le_of_ble_eq_true rfl, Nat.le_of_ble_eq_true rfl⟩, (by show kc + 0 + 0 ≤ 600104; omega), (by show kz + 0 + 0 ≤ 7301314; omega)⟩ hP hD hS hA hl.1 rfl (Nat.le_of_ble_eq_true rfl) rfl (by show kc + 0 + 0 = kc + 0; omega) (by show kz + 0 + 0 = kz + 0; omega) dL_law_79 (fun H locs hP hD hS => ?_)
    refine lv_istore (lv' := [(9, .int v79), (8, .int l8_69), (0, .ref b), (1, .ref (x 0)), (2, .ref a5), (3, .ref a6), (4, .ref a7), (5, .ref a8), (6, .ref a9), (7, .ref a10)]) hx hb dL_law_82 hl (by decide) rfl (fun ls hl => ?_)
    refine lv_iload hx hb dL_law_84 (lv_at hl 0 rfl) ?_
    refine lv_bipush (v := 8) hx hb dL_law_86 (by decide) ?_
    obtain ⟨v88, e88, h⟩ := bnd h
    refine cSp (av := [.int v79, .int 8]) (rest := []) (st1 := [.int v88]) (k1 := kc + 0) (k2 := kz + 0) (wn := wSPo x ++ wFig (fun j => x (1 + j)) cy F ++ wFig (fun j => x (6 + j)) cy D ++ wP2 (fun j => x (11 + j)) cy P ++ wIA a5 cy 5 w5 ++ wIA a6 cy 40 w6 ++ wIA a7 cy 40 w7 ++ wIA a8 cy 5 w8 ++ wIA a9 cy 40 w9 ++ wIA a10 cy 40 w10 ++ wPF (fun j => x (11 + j)) cy (p_figs P)) hx hb hml hown htg hN hK (c_L_low l dC dI cy   v79 8 v88 e88) (g_S gw320 gw321 gw6 gw322) hdS_L_low rfl ⟨⟨Nat.le_of_ble_eq_true rfl, Nat.le_of_ble_eq_true rfl⟩, (by show kc + 0 + 0 ≤ 600104; omega), (by show kz + 0 + 0 ≤ 7301314; omega)⟩ hP hD hS hA (perm_N (perm_ix 19 [] [0, 1, 2, 3, 4, 5, 6, 7, 8, 9, 10, 11, 12, 13, 14, 15, 16, 17, 18] rfl rfl rfl (by decide))) (perm_Nb (perm_ix 19 [0, 1, 2, 3, 4, 5, 6, 7, 8, 9, 10, 11, 12, 13, 14, 15, 16, 17, 18] [] rfl rfl rfl (by decide))) hl.1 rfl (Nat.le_of_ble_eq_true rfl) rfl (by show kc + 0 + 0 = kc + 0; omega) (by show kz + 0 + 0 = kz + 0; omega) dL_law_88 (fun H locs hP hD hS => ?_)
    refine lv_istore (lv' := [(10, .int v88), (9, .int v79), (8, .int l8_69), (0, .ref b), (1, .ref (x 0)), (2, .ref a5), (3, .ref a6), (4, .ref a7), (5, .ref a8), (6, .ref a9), (7, .ref a10)]) hx hb dL_law_91 hl (by decide) rfl (fun ls hl => ?_)
    refine lv_iload hx hb dL_law_93 (lv_at hl 1 rfl) ?_
    refine lv_iconst (v := 3) hx hb dL_law_95 (by decide) ?_
    refine lv_ishr hx hb dL_law_96 ?_
    refine lv_aload_n hx hb dL_law_97 rfl (lv_at hl 5 rfl) ?_
    refine lv_iconst (v := 0) hx hb dL_law_98 (by decide) ?_
    obtain ⟨v99, e99, h⟩ := bnd h
    refine x_iald (v := v99) hx hb hK hP 13 0 rfl rfl e99 dL_law_99 ?_
    obtain ⟨v100, e100, h⟩ := bnd h
    refine cSp (av := [.int (v79 >>> ((3 : Int32) &&& 31)), .int v99]) (rest := []) (st1 := [.int v100]) (k1 := kc + 0) (k2 := kz + 0) (wn := wSPo x ++ wFig (fun j => x (1 + j)) cy F ++ wFig (fun j => x (6 + j)) cy D ++ wP2 (fun j => x (11 + j)) cy P ++ wIA a5 cy 5 w5 ++ wIA a6 cy 40 w6 ++ wIA a7 cy 40 w7 ++ wIA a8 cy 5 w8 ++ wIA a9 cy 40 w9 ++ wIA a10 cy 40 w10 ++ wPF (fun j => x (11 + j)) cy (p_figs P)) hx hb hml hown htg hN hK (c_L_low l dC dI cy   (v79 >>> ((3 : Int32) &&& 31)) v99 v100 e100) (g_S gw320 gw321 gw6 gw322) hdS_L_low rfl ⟨⟨Nat.le_of_ble_eq_true rfl, Nat.le_of_ble_eq_true rfl⟩, (by show kc + 0 + 0 ≤ 600104; omega), (by show kz + 0 + 0 ≤ 7301314; omega)⟩ hP hD hS hA (perm_N (perm_ix 19 [] [0, 1, 2, 3, 4, 5, 6, 7, 8, 9, 10, 11, 12, 13, 14, 15, 16, 17, 18] rfl rfl rfl (by decide))) (perm_Nb (perm_ix 19 [0, 1, 2, 3, 4, 5, 6, 7, 8, 9, 10, 11, 12, 13, 14, 15, 16, 17, 18] [] rfl rfl rfl (by decide))) hl.1 rfl (Nat.le_of_ble_eq_true rfl) rfl (by show kc + 0 + 0 = kc + 0; omega) (by show kz + 0 + 0 = kz + 0; omega) dL_law_100 (fun H locs hP hD hS => ?_)
    refine lv_istore (lv' := [(11, .int v100), (10, .int v88), (9, .int v79), (8, .int l8_69), (0, .ref b), (1, .ref (x 0)), (2, .ref a5), (3, .ref a6), (4, .ref a7), (5, .ref a8), (6, .ref a9), (7, .ref a10)]) hx hb dL_law_103 hl (by decide) rfl (fun ls hl => ?_)
    refine lv_iload hx hb dL_law_105 (lv_at hl 2 rfl) ?_
    refine lv_iconst (v := 5) hx hb dL_law_107 (by decide) ?_
    refine lv_ishr hx hb dL_law_108 ?_
    refine lv_aload_n hx hb dL_law_109 rfl (lv_at hl 6 rfl) ?_
    refine lv_iconst (v := 1) hx hb dL_law_110 (by decide) ?_
    refine lv_iload hx hb dL_law_111 (lv_at hl 0 rfl) ?_
    refine lv_iadd hx hb dL_law_113 ?_
    obtain ⟨v114, e114, h⟩ := bnd h
    refine x_iald (v := v114) hx hb hK hP 13 0 rfl rfl e114 dL_law_114 ?_
    obtain ⟨v115, e115, h⟩ := bnd h
    refine cSp (av := [.int (v79 >>> ((5 : Int32) &&& 31)), .int v114]) (rest := []) (st1 := [.int v115]) (k1 := kc + 0) (k2 := kz + 0) (wn := wSPo x ++ wFig (fun j => x (1 + j)) cy F ++ wFig (fun j => x (6 + j)) cy D ++ wP2 (fun j => x (11 + j)) cy P ++ wIA a5 cy 5 w5 ++ wIA a6 cy 40 w6 ++ wIA a7 cy 40 w7 ++ wIA a8 cy 5 w8 ++ wIA a9 cy 40 w9 ++ wIA a10 cy 40 w10 ++ wPF (fun j => x (11 + j)) cy (p_figs P)) hx hb hml hown htg hN hK (c_L_low l dC dI cy   (v79 >>> ((5 : Int32) &&& 31)) v114 v115 e115) (g_S gw320 gw321 gw6 gw322) hdS_L_low rfl ⟨⟨Nat.le_of_ble_eq_true rfl, Nat.le_of_ble_eq_true rfl⟩, (by show kc + 0 + 0 ≤ 600104; omega), (by show kz + 0 + 0 ≤ 7301314; omega)⟩ hP hD hS hA (perm_N (perm_ix 19 [] [0, 1, 2, 3, 4, 5, 6, 7, 8, 9, 10, 11, 12, 13, 14, 15, 16, 17, 18] rfl rfl rfl (by decide))) (perm_Nb (perm_ix 19 [0, 1, 2, 3, 4, 5, 6, 7, 8, 9, 10, 11, 12, 13, 14, 15, 16, 17, 18] [] rfl rfl rfl (by decide))) hl.1 rfl (Nat.le_of_ble_eq_true rfl) rfl (by show kc + 0 + 0 = kc + 0; omega) (by show kz + 0 + 0 = kz + 0; omega) dL_law_115 (fun H locs hP hD hS => ?_)
    refine lv_istore (lv' := [(12, .int v115), (11, .int v100), (10, .int v88), (9, .int v79), (8, .int l8_69), (0, .ref b), (1, .ref (x 0)), (2, .ref a5), (3, .ref a6), (4, .ref a7), (5, .ref a8), (6, .ref a9), (7, .ref a10)]) hx hb dL_law_118 hl (by decide) rfl (fun ls hl => ?_)
    refine lv_iload hx hb dL_law_120 (lv_at hl 3 rfl) ?_
    refine lv_bipush (v := 9) hx hb dL_law_122 (by decide) ?_
    refine lv_ishr hx hb dL_law_124 ?_
    refine lv_bipush (v := 17) hx hb dL_law_125 (by decide) ?_
    obtain ⟨v127, e127, h⟩ := bnd h
    refine cSp (av := [.int (v79 >>> ((9 : Int32) &&& 31)), .int 17]) (rest := []) (st1 := [.int v127]) (k1 := kc + 0) (k2 := kz + 0) (wn := wSPo x ++ wFig (fun j => x (1 + j)) cy F ++ wFig (fun j => x (6 + j)) cy D ++ wP2 (fun j => x (11 + j)) cy P ++ wIA a5 cy 5 w5 ++ wIA a6 cy 40 w6 ++ wIA a7 cy 40 w7 ++ wIA a8 cy 5 w8 ++ wIA a9 cy 40 w9 ++ wIA a10 cy 40 w10 ++ wPF (fun j => x (11 + j)) cy (p_figs P)) hx hb hml hown htg hN hK (c_L_low l dC dI cy   (v79 >>> ((9 : Int32) &&& 31)) 17 v127 e127) (g_S gw320 gw321 gw6 gw322) hdS_L_low rfl ⟨⟨Nat.le_of_ble_eq_true rfl, Nat.le_of_ble_eq_true rfl⟩, (by show kc + 0 + 0 ≤ 600104; omega), (by show kz + 0 + 0 ≤ 7301314; omega)⟩ hP hD hS hA (perm_N (perm_ix 19 [] [0, 1, 2, 3, 4, 5, 6, 7, 8, 9, 10, 11, 12, 13, 14, 15, 16, 17, 18] rfl rfl rfl (by decide))) (perm_Nb (perm_ix 19 [0, 1, 2, 3, 4, 5, 6, 7, 8, 9, 10, 11, 12, 13, 14, 15, 16, 17, 18] [] rfl rfl rfl (by decide))) hl.1 rfl (Nat.le_of_ble_eq_true rfl) rfl (by show kc + 0 + 0 = kc + 0; omega) (by show kz + 0 + 0 = kz + 0; omega) dL_law_127 (fun H locs hP hD hS => ?_)
    refine lv_istore (lv' := [(13, .int v127), (12, .int v115), (11, .int v100), (10, .int v88), (9, .int v79), (8, .int l8_69), (0, .ref b), (1, .ref (x 0)), (2, .ref a5), (3, .ref a6), (4, .ref a7), (5, .ref a8), (6, .ref a9), (7, .ref a10)]) hx hb dL_law_130 hl (by decide) rfl (fun ls hl => ?_)
    refine lv_iload hx hb dL_law_132 (lv_at hl 4 rfl) ?_
    refine lv_bipush (v := 14) hx hb dL_law_134 (by decide) ?_
    refine lv_ishr hx hb dL_law_136 ?_
    refine lv_bipush (v := 17) hx hb dL_law_137 (by decide) ?_
    obtain ⟨v139, e139, h⟩ := bnd h
    refine cSp (av := [.int (v79 >>> ((14 : Int32) &&& 31)), .int 17]) (rest := []) (st1 := [.int v139]) (k1 := kc + 0) (k2 := kz + 0) (wn := wSPo x ++ wFig (fun j => x (1 + j)) cy F ++ wFig (fun j => x (6 + j)) cy D ++ wP2 (fun j => x (11 + j)) cy P ++ wIA a5 cy 5 w5 ++ wIA a6 cy 40 w6 ++ wIA a7 cy 40 w7 ++ wIA a8 cy 5 w8 ++ wIA a9 cy 40 w9 ++ wIA a10 cy 40 w10 ++ wPF (fun j => x (11 + j)) cy (p_figs P)) hx hb hml hown htg hN hK (c_L_low l dC dI cy   (v79 >>> ((14 : Int32) &&& 31)) 17 v139 e139) (g_S gw320 gw321 gw6 gw322) hdS_L_low rfl ⟨⟨Nat.le_of_ble_eq_true rfl, Nat.le_of_ble_eq_true rfl⟩, (by show kc + 0 + 0 ≤ 600104; omega), (by show kz + 0 + 0 ≤ 7301314; omega)⟩ hP hD hS hA (perm_N (perm_ix 19 [] [0, 1, 2, 3, 4, 5, 6, 7, 8, 9, 10, 11, 12, 13, 14, 15, 16, 17, 18] rfl rfl rfl (by decide))) (perm_Nb (perm_ix 19 [0, 1, 2, 3, 4, 5, 6, 7, 8, 9, 10, 11, 12, 13, 14, 15, 16, 17, 18] [] rfl rfl rfl (by decide))) hl.1 rfl (Nat.le_of_ble_eq_true rfl) rfl (by show kc + 0 + 0 = kc + 0; omega) (by show kz + 0 + 0 = kz + 0; omega) dL_law_139 (fun H locs hP hD hS => ?_)
    refine lv_istore (lv' := [(14, .int v139), (13, .int v127), (12, .int v115), (11, .int v100), (10, .int v88), (9, .int v79), (8, .int l8_69), (0, .ref b), (1, .ref (x 0)), (2, .ref a5), (3, .ref a6), (4, .ref a7), (5, .ref a8), (6, .ref a9), (7, .ref a10)]) hx hb dL_law_142 hl (by decide) rfl (fun ls hl => ?_)
    refine lv_bipush (v := 10) hx hb dL_law_144 (by decide) ?_
    refine lv_iload hx hb dL_law_146 (lv_at hl 3 rfl) ?_
    refine lv_imul hx hb dL_law_148 ?_
    refine lv_iload hx hb dL_law_149 (lv_at hl 2 rfl) ?_
    refine lv_iadd hx hb dL_law_151 ?_
    refine lv_istore (lv' := [(15, .int ((10 * v100) + v115)), (14, .int v139), (13, .int v127), (12, .int v115), (11, .int v100), (10, .int v88), (9, .int v79), (8, .int l8_69), (0, .ref b), (1, .ref (x 0)), (2, .ref a5), (3, .ref a6), (4, .ref a7), (5, .ref a8), (6, .ref a9), (7, .ref a10)]) hx hb dL_law_152 hl (by decide) rfl (fun ls hl => ?_)
    refine lv_aload_n hx hb dL_law_154 rfl (lv_at hl 10 rfl) ?_
    refine lv_aload_n hx hb dL_law_155 rfl (lv_at hl 11 rfl) ?_
    refine lv_aload hx hb dL_law_156 (lv_at hl 12 rfl) ?_
    refine lv_aload hx hb dL_law_158 (lv_at hl 13 rfl) ?_
    refine lv_aload hx hb dL_law_160 (lv_at hl 14 rfl) ?_
    refine lv_aload hx hb dL_law_162 (lv_at hl 15 rfl) ?_
    obtain ⟨v164, e164, h⟩ := bnd h
    refine cSp (av := [.ref a5, .ref a6, .ref a7, .ref a8, .ref a9, .ref a10]) (rest := []) (st1 := []) (k1 := kc + 0) (k2 := kz + 0) (wn := wSPo x ++ wFig (fun j => x (1 + j)) cy F ++ wFig (fun j => x (6 + j)) cy D ++ wP2 (fun j => x (11 + j)) cy P ++ wIA a5 cy 5 w5 ++ wIA a6 cy 40 w6 ++ wIA a7 cy 40 w7 ++ wIA a8 cy 5 v164.1 ++ wIA a9 cy 40 v164.2.1 ++ wIA a10 cy 40 v164.2.2 ++ wPF (fun j => x (11 + j)) cy (p_figs P)) hx hb hml hown htg hN hK (c_L_copy l dC dI cy a5 a6 a7 a8 a9 a10 5 40 40 5 40 40 w5 w6 w7 w8 w9 w10  v164 e164) (g_S gw603 gw604 gw6 gw605) hdS_L_copy rfl ⟨⟨Nat.le_of_ble_eq_true rfl, Nat.le_of_ble_eq_true rfl⟩, (by show kc + 0 + 0 ≤ 600104; omega), (by show kz + 0 + 0 ≤ 7301314; omega)⟩ hP hD hS hA (perm_N (perm_ix 19 [13, 14, 15, 16, 17, 18] [0, 1, 2, 3, 4, 5, 6, 7, 8, 9, 10, 11, 12] rfl rfl rfl (by decide))) (perm_Nb (perm_ix 19 [0, 1, 2, 3, 4, 5, 6, 7, 8, 9, 10, 11, 12] [13, 14, 15, 16, 17, 18] rfl rfl rfl (by decide))) hl.1 rfl (Nat.le_of_ble_eq_true rfl) rfl (by show kc + 0 + 0 = kc + 0; omega) (by show kz + 0 + 0 = kz + 0; omega) dL_law_164 (fun H locs hP hD hS => ?_)
    refine lv_iload hx hb dL_law_167 (lv_at hl 5 rfl) ?_
    refine lv_iconst (v := 4) hx hb dL_law_169 (by decide) ?_
    have hj805 : ∀ (F_805 : Fig) (D_805 : Fig) (P_805 : PastS) (w5_805 : Nat → Int32) (w6_805 : Nat → Int32) (w7_805 : Nat → Int32) (w8_805 : Nat → Int32) (w9_805 : Nat → Int32) (w10_805 : Nat → Int32) (l9_805 : Int32) (l8_805 : Int32) (H : Heap) (locs : List Loc) (ls : Array Slot), G_L_law_j805 (G_L_law_L69 L xs n69) L xs F_805 D_805 P_805 w5_805 w6_805 w7_805 w8_805 w9_805 w10_805 l9_805 l8_805 = some 1 → va_P (dC, dI) vwCl (wSPo x ++ wFig (fun j => x (1 + j)) cy F_805 ++ wFig (fun j => x (6 + j)) cy D_805 ++ wP2 (fun j => x (11 + j)) cy P_805 ++ wIA a5 cy 5 w5_805 ++ wIA a6 cy 40 w6_805 ++ wIA a7 cy 40 w7_805 ++ wIA a8 cy 5 w8_805 ++ wIA a9 cy 40 w9_805 ++ wIA a10 cy 40 w10_805 ++ wPF (fun j => x (11 + j)) cy (p_figs P_805)) H → va_D (lwA s) (wSPo x ++ wFig (fun j => x (1 + j)) cy F_805 ++ wFig (fun j => x (6 + j)) cy D_805 ++ wP2 (fun j => x (11 + j)) cy P_805 ++ wIA a5 cy 5 w5_805 ++ wIA a6 cy 40 w6_805 ++ wIA a7 cy 40 w7_805 ++ wIA a8 cy 5 w8_805 ++ wIA a9 cy 40 w9_805 ++ wIA a10 cy 40 w10_805 ++ wPF (fun j => x (11 + j)) cy (p_figs P_805)) → va_S (lwA s) s.heap H locs → lv_has ls 18 [(9, .int l9_805), (8, .int l8_805), (0, .ref b), (1, .ref (x 0)), (2, .ref a5), (3, .ref a6), (4, .ref a7), (5, .ref a8), (6, .ref a9), (7, .ref a10)] → W p l e room_1 s mm #[Value.ref b] below meth cd H locs (kc + 3) (kz + 18) (lw_Z below #[Value.ref b] s) (F0 mm 805 ls []) := by
      intro F_805 D_805 P_805 w5_805 w6_805 w7_805 w8_805 w9_805 w10_805 l9_805 l8_805 H locs ls h hP hD hS hl
      unfold G_L_law_j805 at h
      refine lv_aload_n hx hb dL_law_805 rfl (lv_at hl 3 rfl) ?_
      refine lv_iload hx hb dL_law_806 (lv_at hl 0 rfl) ?_
      refine lv_bipush (v := 17) hx hb dL_law_808 (by decide) ?_
      refine lv_ishr hx hb dL_law_810 ?_
      refine lv_bipush (v := 16) hx hb dL_law_811 (by decide) ?_
      obtain ⟨v813, e813, h⟩ := bnd h
      refine cSp (av := [.int (l9_805 >>> ((17 : Int32) &&& 31)), .int 16]) (rest := [.ref (x 0)]) (st1 := [.int v813, .ref (x 0)]) (k1 := kc + 3) (k2 := kz + 18) (wn := wSPo x ++ wFig (fun j => x (1 + j)) cy F_805 ++ wFig (fun j => x (6 + j)) cy D_805 ++ wP2 (fun j => x (11 + j)) cy P_805 ++ wIA a5 cy 5 w5_805 ++ wIA a6 cy 40 w6_805 ++ wIA a7 cy 40 w7_805 ++ wIA a8 cy 5 w8_805 ++ wIA a9 cy 40 w9_805 ++ wIA a10 cy 40 w10_805 ++ wPF (fun j => x (11 + j)) cy (p_figs P_805)) hx hb hml hown htg hN hK (c_L_low l dC dI cy   (l9_805 >>> ((17 : Int32) &&& 31)) 16 v813 e813) (g_S gw320 gw321 gw6 gw322) hdS_L_low rfl ⟨⟨Nat.le_of_ble_eq_true rfl, Nat.le_of_ble_eq_true rfl⟩, (by show kc + 3 + 0 ≤ 600104; omega), (by show kz + 18 + 0 ≤ 7301314; omega)⟩ hP hD hS hA (perm_N (perm_ix 19 [] [0, 1, 2, 3, 4, 5, 6, 7, 8, 9, 10, 11, 12, 13, 14, 15, 16, 17, 18] rfl rfl rfl (by decide))) (perm_Nb (perm_ix 19 [0, 1, 2, 3, 4, 5, 6, 7, 8, 9, 10, 11, 12, 13, 14, 15, 16, 17, 18] [] rfl rfl rfl (by decide))) hl.1 rfl (Nat.le_of_ble_eq_true rfl) rfl (by show kc + 3 + 0 = kc + 3; omega) (by show kz + 18 + 0 = kz + 18; omega) dL_law_813 (fun H locs hP hD hS => ?_)
      refine lv_aload_n hx hb dL_law_816 rfl (lv_at hl 4 rfl) ?_
      refine lv_aload_n hx hb dL_law_817 rfl (lv_at hl 5 rfl) ?_
      refine lv_aload hx hb dL_law_818 (lv_at hl 6 rfl) ?_
      obtain ⟨v820, e820, h⟩ := bnd h
      refine cSp (av := [.ref (x 0), .int v813, .ref a5, .ref a6, .ref a7]) (rest := []) (st1 := [.int v820]) (k1 := kc + 3) (k2 := kz + 18) (wn := wSPo x ++ wFig (fun j => x (1 + j)) cy F_805 ++ wFig (fun j => x (6 + j)) cy D_805 ++ wP2 (fun j => x (11 + j)) cy P_805 ++ wIA a5 cy 5 w5_805 ++ wIA a6 cy 40 w6_805 ++ wIA a7 cy 40 w7_805 ++ wIA a8 cy 5 w8_805 ++ wIA a9 cy 40 w9_805 ++ wIA a10 cy 40 w10_805 ++ wPF (fun j => x (11 + j)) cy (p_figs P_805)) hx hb hml hown htg hN hK (c_L_same l dC dI cy x a5 a6 a7 5 40 40 F_805 w5_805 w6_805 w7_805 v813 v820 e820) (g_S gw477 gw478 gw6 gw479) hdS_L_same rfl ⟨⟨Nat.le_of_ble_eq_true rfl, Nat.le_of_ble_eq_true rfl⟩, (by show kc + 3 + 0 ≤ 600104; omega), (by show kz + 18 + 0 ≤ 7301314; omega)⟩ hP hD hS hA (perm_N (perm_ix 19 [0, 1, 2, 3, 4, 5, 13, 14, 15] [6, 7, 8, 9, 10, 11, 12, 16, 17, 18] rfl rfl rfl (by decide))) (perm_Nb (perm_ix 19 [6, 7, 8, 9, 10, 11, 12, 16, 17, 18] [0, 1, 2, 3, 4, 5, 13, 14, 15] rfl rfl rfl (by decide))) hl.1 rfl (Nat.le_of_ble_eq_true rfl) rfl (by show kc + 3 + 0 = kc + 3; omega) (by show kz + 18 + 0 = kz + 18; omega) dL_law_820 (fun H locs hP hD hS => ?_)
      refine lv_if_ne (tgt := 828) hx hb dL_law_823 (by decide) (fun c823 => ?_) (fun c823 => ?_)
      · replace h := if_f h c823
        refine lv_iinc (v := l8_805 + 1) (lv' := [(8, .int (l8_805 + 1)), (9, .int l9_805), (0, .ref b), (1, .ref (x 0)), (2, .ref a5), (3, .ref a6), (4, .ref a7), (5, .ref a8), (6, .ref a9), (7, .ref a10)]) hx hb dL_law_828 hl (k := 1) rfl rfl (by decide) rfl (fun ls hl => ?_)
        refine lv_goto (tgt := 69) hx hb dL_law_831 (by decide) ?_
        exact ih69 (kc + 3) (kz + 18) F_805 D_805 P_805 w5_805 w6_805 w7_805 w8_805 w9_805 w10_805 (l8_805 + 1) H locs ls (by omega) (by omega) h hP hD hS (lv_sub hl [0, 2, 3, 4, 5, 6, 7, 8, 9] rfl)
      replace h := if_t h c823
      refine lv_iconst (v := 0) hx hb dL_law_826 (by decide) ?_
      exact absurd (Option.some.inj h) (by decide)
    refine lv_icmp_ge (tgt := 272) hx hb dL_law_170 (by decide) (fun c170 => ?_) (fun c170 => ?_)
    · replace h := if_t h c170
      refine lv_iload hx hb dL_law_272 (lv_at hl 5 rfl) ?_
      refine lv_bipush (v := 6) hx hb dL_law_274 (by decide) ?_
      refine lv_icmp_ge (tgt := 470) hx hb dL_law_276 (by decide) (fun c276 => ?_) (fun c276 => ?_)
      · replace h := if_t h c276
        refine lv_iload hx hb dL_law_470 (lv_at hl 5 rfl) ?_
        refine lv_bipush (v := 6) hx hb dL_law_472 (by decide) ?_
        refine lv_icmp_ne (tgt := 649) hx hb dL_law_474 (by decide) (fun c474 => ?_) (fun c474 => ?_)
        · replace h := if_f h c474
          refine lv_aload_n hx hb dL_law_649 rfl (lv_at hl 10 rfl) ?_
          refine lv_iconst (v := 0) hx hb dL_law_650 (by decide) ?_
          obtain ⟨v651, e651, h⟩ := bnd h
          refine x_iald (v := v651) hx hb hK hP 13 0 rfl rfl e651 dL_law_651 ?_
          refine lv_iconst (v := 4) hx hb dL_law_652 (by decide) ?_
          refine lv_icmp_ge (tgt := 805) hx hb dL_law_653 (by decide) (fun c653 => ?_) (fun c653 => ?_)
          · replace h := if_t h c653
            refine W.widen (k := kc + 3) (n := kz + 18) (by omega) (by omega) ?_
            exact hj805 F D P w5 w6 w7 v164.1 v164.2.1 v164.2.2 v79 l8_69 H locs ls h hP hD hS (lv_sub hl [6, 7, 8, 9, 10, 11, 12, 13, 14, 15] rfl)
          replace h := if_f h c653
          refine lv_bipush (v := 10) hx hb dL_law_656 (by decide) ?_
          refine lv_aload hx hb dL_law_658 (lv_at hl 13 rfl) ?_
          refine lv_iconst (v := 0) hx hb dL_law_660 (by decide) ?_
          refine lv_dup2_11 hx hb dL_law_661 rfl rfl ?_
          obtain ⟨v662, e662, h⟩ := bnd h
          refine x_iald (v := v662) hx hb hK hP 16 0 rfl rfl e662 dL_law_662 ?_
          refine lv_dup_x2 hx hb dL_law_663 rfl rfl rfl ?_
          refine lv_iconst (v := 1) hx hb dL_law_664 (by decide) ?_
          refine lv_iadd hx hb dL_law_665 ?_
          obtain ⟨g666, e666, h⟩ := bnd h
          refine x_iast (g := g666) hx hb hK hP hD hS 16 0 rfl rfl e666 dL_law_666 (fun H locs hP hD hS => ?_)
          have hP : va_P (dC, dI) vwCl (wSPo x ++ wFig (fun j => x (1 + j)) cy F ++ wFig (fun j => x (6 + j)) cy D ++ wP2 (fun j => x (11 + j)) cy P ++ wIA a5 cy 5 w5 ++ wIA a6 cy 40 w6 ++ wIA a7 cy 40 w7 ++ wIA a8 cy 5 g666 ++ wIA a9 cy 40 v164.2.1 ++ wIA a10 cy 40 v164.2.2 ++ wPF (fun j => x (11 + j)) cy (p_figs P)) H := hP
          have hD : va_D (lwA s) (wSPo x ++ wFig (fun j => x (1 + j)) cy F ++ wFig (fun j => x (6 + j)) cy D ++ wP2 (fun j => x (11 + j)) cy P ++ wIA a5 cy 5 w5 ++ wIA a6 cy 40 w6 ++ wIA a7 cy 40 w7 ++ wIA a8 cy 5 g666 ++ wIA a9 cy 40 v164.2.1 ++ wIA a10 cy 40 v164.2.2 ++ wPF (fun j => x (11 + j)) cy (p_figs P)) := hD
          refine lv_imul hx hb dL_law_667 ?_
          refine lv_istore (lv' := [(16, .int (10 * v662)), (15, .int ((10 * v100) + v115)), (14, .int v139), (13, .int v127), (12, .int v115), (11, .int v100), (10, .int v88), (9, .int v79), (8, .int l8_69), (0, .ref b), (1, .ref (x 0)), (2, .ref a5), (3, .ref a6), (4, .ref a7), (5, .ref a8), (6, .ref a9), (7, .ref a10)]) hx hb dL_law_668 hl (by decide) rfl (fun ls hl => ?_)
          refine lv_aload hx hb dL_law_670 (lv_at hl 14 rfl) ?_
          refine lv_aload hx hb dL_law_672 (lv_at hl 14 rfl) ?_
          refine lv_iconst (v := 0) hx hb dL_law_674 (by decide) ?_
          obtain ⟨v675, e675, h⟩ := bnd h
          refine x_iald (v := v675) hx hb hK hP 16 0 rfl rfl e675 dL_law_675 ?_
          refine lv_iconst (v := 3) hx hb dL_law_676 (by decide) ?_
          obtain ⟨g677, e677, h⟩ := bnd h
          refine x_iast (g := g677) hx hb hK hP hD hS 16 0 rfl rfl e677 dL_law_677 (fun H locs hP hD hS => ?_)
          have hP : va_P (dC, dI) vwCl (wSPo x ++ wFig (fun j => x (1 + j)) cy F ++ wFig (fun j => x (6 + j)) cy D ++ wP2 (fun j => x (11 + j)) cy P ++ wIA a5 cy 5 w5 ++ wIA a6 cy 40 w6 ++ wIA a7 cy 40 w7 ++ wIA a8 cy 5 g677 ++ wIA a9 cy 40 v164.2.1 ++ wIA a10 cy 40 v164.2.2 ++ wPF (fun j => x (11 + j)) cy (p_figs P)) H := hP
          have hD : va_D (lwA s) (wSPo x ++ wFig (fun j => x (1 + j)) cy F ++ wFig (fun j => x (6 + j)) cy D ++ wP2 (fun j => x (11 + j)) cy P ++ wIA a5 cy 5 w5 ++ wIA a6 cy 40 w6 ++ wIA a7 cy 40 w7 ++ wIA a8 cy 5 g677 ++ wIA a9 cy 40 v164.2.1 ++ wIA a10 cy 40 v164.2.2 ++ wPF (fun j => x (11 + j)) cy (p_figs P)) := hD
          refine lv_aload hx hb dL_law_678 (lv_at hl 15 rfl) ?_
          refine lv_iload hx hb dL_law_680 (lv_at hl 0 rfl) ?_
          refine lv_iload hx hb dL_law_682 (lv_at hl 3 rfl) ?_
          obtain ⟨g684, e684, h⟩ := bnd h
          refine x_iast (g := g684) hx hb hK hP hD hS 17 0 rfl rfl e684 dL_law_684 (fun H locs hP hD hS => ?_)
          have hP : va_P (dC, dI) vwCl (wSPo x ++ wFig (fun j => x (1 + j)) cy F ++ wFig (fun j => x (6 + j)) cy D ++ wP2 (fun j => x (11 + j)) cy P ++ wIA a5 cy 5 w5 ++ wIA a6 cy 40 w6 ++ wIA a7 cy 40 w7 ++ wIA a8 cy 5 g677 ++ wIA a9 cy 40 g684 ++ wIA a10 cy 40 v164.2.2 ++ wPF (fun j => x (11 + j)) cy (p_figs P)) H := hP
          have hD : va_D (lwA s) (wSPo x ++ wFig (fun j => x (1 + j)) cy F ++ wFig (fun j => x (6 + j)) cy D ++ wP2 (fun j => x (11 + j)) cy P ++ wIA a5 cy 5 w5 ++ wIA a6 cy 40 w6 ++ wIA a7 cy 40 w7 ++ wIA a8 cy 5 g677 ++ wIA a9 cy 40 g684 ++ wIA a10 cy 40 v164.2.2 ++ wPF (fun j => x (11 + j)) cy (p_figs P)) := hD
          refine lv_aload hx hb dL_law_685 (lv_at hl 16 rfl) ?_
          refine lv_iload hx hb dL_law_687 (lv_at hl 0 rfl) ?_
          refine lv_iload hx hb dL_law_689 (lv_at hl 2 rfl) ?_
          obtain ⟨g691, e691, h⟩ := bnd h
          refine x_iast (g := g691) hx hb hK hP hD hS 18 0 rfl rfl e691 dL_law_691 (fun H locs hP hD hS => ?_)
          have hP : va_P (dC, dI) vwCl (wSPo x ++ wFig (fun j => x (1 + j)) cy F ++ wFig (fun j => x (6 + j)) cy D ++ wP2 (fun j => x (11 + j)) cy P ++ wIA a5 cy 5 w5 ++ wIA a6 cy 40 w6 ++ wIA a7 cy 40 w7 ++ wIA a8 cy 5 g677 ++ wIA a9 cy 40 g684 ++ wIA a10 cy 40 g691 ++ wPF (fun j => x (11 + j)) cy (p_figs P)) H := hP
          have hD : va_D (lwA s) (wSPo x ++ wFig (fun j => x (1 + j)) cy F ++ wFig (fun j => x (6 + j)) cy D ++ wP2 (fun j => x (11 + j)) cy P ++ wIA a5 cy 5 w5 ++ wIA a6 cy 40 w6 ++ wIA a7 cy 40 w7 ++ wIA a8 cy 5 g677 ++ wIA a9 cy 40 g684 ++ wIA a10 cy 40 g691 ++ wPF (fun j => x (11 + j)) cy (p_figs P)) := hD
          refine lv_aload hx hb dL_law_692 (lv_at hl 15 rfl) ?_
          refine lv_iload hx hb dL_law_694 (lv_at hl 0 rfl) ?_
          refine lv_iconst (v := 1) hx hb dL_law_696 (by decide) ?_
          refine lv_iadd hx hb dL_law_697 ?_
          refine lv_iload hx hb dL_law_698 (lv_at hl 3 rfl) ?_
          refine lv_iconst (v := 1) hx hb dL_law_700 (by decide) ?_
          refine lv_iadd hx hb dL_law_701 ?_
          obtain ⟨g702, e702, h⟩ := bnd h
          refine x_iast (g := g702) hx hb hK hP hD hS 17 0 rfl rfl e702 dL_law_702 (fun H locs hP hD hS => ?_)
          have hP : va_P (dC, dI) vwCl (wSPo x ++ wFig (fun j => x (1 + j)) cy F ++ wFig (fun j => x (6 + j)) cy D ++ wP2 (fun j => x (11 + j)) cy P ++ wIA a5 cy 5 w5 ++ wIA a6 cy 40 w6 ++ wIA a7 cy 40 w7 ++ wIA a8 cy 5 g677 ++ wIA a9 cy 40 g702 ++ wIA a10 cy 40 g691 ++ wPF (fun j => x (11 + j)) cy (p_figs P)) H := hP
          have hD : va_D (lwA s) (wSPo x ++ wFig (fun j => x (1 + j)) cy F ++ wFig (fun j => x (6 + j)) cy D ++ wP2 (fun j => x (11 + j)) cy P ++ wIA a5 cy 5 w5 ++ wIA a6 cy 40 w6 ++ wIA a7 cy 40 w7 ++ wIA a8 cy 5 g677 ++ wIA a9 cy 40 g702 ++ wIA a10 cy 40 g691 ++ wPF (fun j => x (11 + j)) cy (p_figs P)) := hD
          refine lv_aload hx hb dL_law_703 (lv_at hl 16 rfl) ?_
          refine lv_iload hx hb dL_law_705 (lv_at hl 0 rfl) ?_
          refine lv_iconst (v := 1) hx hb dL_law_707 (by decide) ?_
          refine lv_iadd hx hb dL_law_708 ?_
          refine lv_iload hx hb dL_law_709 (lv_at hl 2 rfl) ?_
          obtain ⟨g711, e711, h⟩ := bnd h
          refine x_iast (g := g711) hx hb hK hP hD hS 18 0 rfl rfl e711 dL_law_711 (fun H locs hP hD hS => ?_)
          have hP : va_P (dC, dI) vwCl (wSPo x ++ wFig (fun j => x (1 + j)) cy F ++ wFig (fun j => x (6 + j)) cy D ++ wP2 (fun j => x (11 + j)) cy P ++ wIA a5 cy 5 w5 ++ wIA a6 cy 40 w6 ++ wIA a7 cy 40 w7 ++ wIA a8 cy 5 g677 ++ wIA a9 cy 40 g702 ++ wIA a10 cy 40 g711 ++ wPF (fun j => x (11 + j)) cy (p_figs P)) H := hP
          have hD : va_D (lwA s) (wSPo x ++ wFig (fun j => x (1 + j)) cy F ++ wFig (fun j => x (6 + j)) cy D ++ wP2 (fun j => x (11 + j)) cy P ++ wIA a5 cy 5 w5 ++ wIA a6 cy 40 w6 ++ wIA a7 cy 40 w7 ++ wIA a8 cy 5 g677 ++ wIA a9 cy 40 g702 ++ wIA a10 cy 40 g711 ++ wPF (fun j => x (11 + j)) cy (p_figs P)) := hD
          refine lv_aload hx hb dL_law_712 (lv_at hl 15 rfl) ?_
          refine lv_iload hx hb dL_law_714 (lv_at hl 0 rfl) ?_
          refine lv_iconst (v := 2) hx hb dL_law_716 (by decide) ?_
          refine lv_iadd hx hb dL_law_717 ?_
          refine lv_iload hx hb dL_law_718 (lv_at hl 3 rfl) ?_
          obtain ⟨g720, e720, h⟩ := bnd h
          refine x_iast (g := g720) hx hb hK hP hD hS 17 0 rfl rfl e720 dL_law_720 (fun H locs hP hD hS => ?_)
          have hP : va_P (dC, dI) vwCl (wSPo x ++ wFig (fun j => x (1 + j)) cy F ++ wFig (fun j => x (6 + j)) cy D ++ wP2 (fun j => x (11 + j)) cy P ++ wIA a5 cy 5 w5 ++ wIA a6 cy 40 w6 ++ wIA a7 cy 40 w7 ++ wIA a8 cy 5 g677 ++ wIA a9 cy 40 g720 ++ wIA a10 cy 40 g711 ++ wPF (fun j => x (11 + j)) cy (p_figs P)) H := hP
          have hD : va_D (lwA s) (wSPo x ++ wFig (fun j => x (1 + j)) cy F ++ wFig (fun j => x (6 + j)) cy D ++ wP2 (fun j => x (11 + j)) cy P ++ wIA a5 cy 5 w5 ++ wIA a6 cy 40 w6 ++ wIA a7 cy 40 w7 ++ wIA a8 cy 5 g677 ++ wIA a9 cy 40 g720 ++ wIA a10 cy 40 g711 ++ wPF (fun j => x (11 + j)) cy (p_figs P)) := hD
          refine lv_aload hx hb dL_law_721 (lv_at hl 16 rfl) ?_
          refine lv_iload hx hb dL_law_723 (lv_at hl 0 rfl) ?_
          refine lv_iconst (v := 2) hx hb dL_law_725 (by decide) ?_
          refine lv_iadd hx hb dL_law_726 ?_
          refine lv_iload hx hb dL_law_727 (lv_at hl 2 rfl) ?_
          refine lv_iconst (v := 1) hx hb dL_law_729 (by decide) ?_
          refine lv_iadd hx hb dL_law_730 ?_
          obtain ⟨g731, e731, h⟩ := bnd h
          refine x_iast (g := g731) hx hb hK hP hD hS 18 0 rfl rfl e731 dL_law_731 (fun H locs hP hD hS => ?_)
          have hP : va_P (dC, dI) vwCl (wSPo x ++ wFig (fun j => x (1 + j)) cy F ++ wFig (fun j => x (6 + j)) cy D ++ wP2 (fun j => x (11 + j)) cy P ++ wIA a5 cy 5 w5 ++ wIA a6 cy 40 w6 ++ wIA a7 cy 40 w7 ++ wIA a8 cy 5 g677 ++ wIA a9 cy 40 g720 ++ wIA a10 cy 40 g731 ++ wPF (fun j => x (11 + j)) cy (p_figs P)) H := hP
          have hD : va_D (lwA s) (wSPo x ++ wFig (fun j => x (1 + j)) cy F ++ wFig (fun j => x (6 + j)) cy D ++ wP2 (fun j => x (11 + j)) cy P ++ wIA a5 cy 5 w5 ++ wIA a6 cy 40 w6 ++ wIA a7 cy 40 w7 ++ wIA a8 cy 5 g677 ++ wIA a9 cy 40 g720 ++ wIA a10 cy 40 g731 ++ wPF (fun j => x (11 + j)) cy (p_figs P)) := hD
          refine lv_aload hx hb dL_law_732 (lv_at hl 14 rfl) ?_
          refine lv_aload hx hb dL_law_734 (lv_at hl 15 rfl) ?_
          refine lv_aload hx hb dL_law_736 (lv_at hl 16 rfl) ?_
          obtain ⟨v738, e738, h⟩ := bnd h
          refine cSp (av := [.ref a8, .ref a9, .ref a10]) (rest := []) (st1 := [.int v738]) (k1 := kc + 0) (k2 := kz + 0) (wn := wSPo x ++ wFig (fun j => x (1 + j)) cy F ++ wFig (fun j => x (6 + j)) cy D ++ wP2 (fun j => x (11 + j)) cy P ++ wIA a5 cy 5 w5 ++ wIA a6 cy 40 w6 ++ wIA a7 cy 40 w7 ++ wIA a8 cy 5 g677 ++ wIA a9 cy 40 g720 ++ wIA a10 cy 40 g731 ++ wPF (fun j => x (11 + j)) cy (p_figs P)) hx hb hml hown htg hN hK (c_L_broken l dC dI cy a8 a9 a10 5 40 40 g677 g720 g731  v738 e738) (g_S gw450 gw451 gw6 gw452) hdS_L_broken rfl ⟨⟨Nat.le_of_ble_eq_true rfl, Nat.le_of_ble_eq_true rfl⟩, (by show kc + 0 + 0 ≤ 600104; omega), (by show kz + 0 + 0 ≤ 7301314; omega)⟩ hP hD hS hA (perm_N (perm_ix 19 [16, 17, 18] [0, 1, 2, 3, 4, 5, 6, 7, 8, 9, 10, 11, 12, 13, 14, 15] rfl rfl rfl (by decide))) (perm_Nb (perm_ix 19 [0, 1, 2, 3, 4, 5, 6, 7, 8, 9, 10, 11, 12, 13, 14, 15] [16, 17, 18] rfl rfl rfl (by decide))) hl.1 rfl (Nat.le_of_ble_eq_true rfl) rfl (by show kc + 0 + 0 = kc + 0; omega) (by show kz + 0 + 0 = kz + 0; omega) dL_law_738 (fun H locs hP hD hS => ?_)
          refine lv_istore (lv' := [(17, .int v738), (16, .int (10 * v662)), (15, .int ((10 * v100) + v115)), (14, .int v139), (13, .int v127), (12, .int v115), (11, .int v100), (10, .int v88), (9, .int v79), (8, .int l8_69), (0, .ref b), (1, .ref (x 0)), (2, .ref a5), (3, .ref a6), (4, .ref a7), (5, .ref a8), (6, .ref a9), (7, .ref a10)]) hx hb dL_law_741 hl (by decide) rfl (fun ls hl => ?_)
          refine lv_aload_n hx hb dL_law_743 rfl (lv_at hl 11 rfl) ?_
          refine lv_iload hx hb dL_law_744 (lv_at hl 4 rfl) ?_
          refine lv_iload hx hb dL_law_746 (lv_at hl 3 rfl) ?_
          obtain ⟨v748, e748, h⟩ := bnd h
          refine cLWp (av := [.ref (x 0), .int v127, .int v139]) (rest := []) (st1 := [.int v748.1]) (k1 := kc + 1) (k2 := kz + 6) (wn := wSPo x ++ wFig (fun j => x (1 + j)) cy v748.2.1 ++ wFig (fun j => x (6 + j)) cy v748.2.2.1 ++ wP2 (fun j => x (11 + j)) cy v748.2.2.2 ++ wIA a5 cy 5 w5 ++ wIA a6 cy 40 w6 ++ wIA a7 cy 40 w7 ++ wIA a8 cy 5 g677 ++ wIA a9 cy 40 g720 ++ wIA a10 cy 40 g731 ++ wPF (fun j => x (11 + j)) cy (p_figs v748.2.2.2)) hx hb hml hown htg hN hK hX0 hNC (c_L_addHole l dC dI cy hlt x F D P v127 v139 v748 e748) ⟨gw418, gw419, gw6, cw_addHole⟩ hdS_L_addHole rfl ⟨⟨Nat.le_of_ble_eq_true rfl, Nat.le_of_ble_eq_true rfl⟩, (by show kc + 0 + 1 ≤ 600104; omega), (by show kz + 0 + 6 ≤ 7301314; omega)⟩ hP hD hS hA (perm_T (perm_ix 19 [0, 1, 2, 3, 4, 5, 6, 7, 8, 9, 10, 11, 12] [13, 14, 15, 16, 17, 18] rfl rfl rfl (by decide))) (perm_Tb (perm_ix 19 [13, 14, 15, 16, 17, 18] [0, 1, 2, 3, 4, 5, 6, 7, 8, 9, 10, 11, 12] rfl rfl rfl (by decide))) hl.1 rfl (Nat.le_of_ble_eq_true rfl) rfl (by show kc + 0 + 1 = kc + 1; omega) (by show kz + 0 + 6 = kz + 6; omega) dL_law_748 (fun H locs hP hD hS => ?_)
          refine lv_iload hx hb dL_law_751 (lv_at hl 4 rfl) ?_
          refine lv_bipush (v := 14) hx hb dL_law_753 (by decide) ?_
          obtain ⟨b755, e755, h⟩ := bnd h
          have hr782 : ∀ (H : Heap) (locs : List Loc) (ls : Array Slot), va_P (dC, dI) vwCl (wSPo x ++ wFig (fun j => x (1 + j)) cy v748.2.1 ++ wFig (fun j => x (6 + j)) cy v748.2.2.1 ++ wP2 (fun j => x (11 + j)) cy v748.2.2.2 ++ wIA a5 cy 5 w5 ++ wIA a6 cy 40 w6 ++ wIA a7 cy 40 w7 ++ wIA a8 cy 5 g677 ++ wIA a9 cy 40 g720 ++ wIA a10 cy 40 g731 ++ wPF (fun j => x (11 + j)) cy (p_figs v748.2.2.2)) H → va_D (lwA s) (wSPo x ++ wFig (fun j => x (1 + j)) cy v748.2.1 ++ wFig (fun j => x (6 + j)) cy v748.2.2.1 ++ wP2 (fun j => x (11 + j)) cy v748.2.2.2 ++ wIA a5 cy 5 w5 ++ wIA a6 cy 40 w6 ++ wIA a7 cy 40 w7 ++ wIA a8 cy 5 g677 ++ wIA a9 cy 40 g720 ++ wIA a10 cy 40 g731 ++ wPF (fun j => x (11 + j)) cy (p_figs v748.2.2.2)) → va_S (lwA s) s.heap H locs → lv_has ls 18 [(17, .int v738), (16, .int (10 * v662)), (15, .int ((10 * v100) + v115)), (14, .int v139), (13, .int v127), (12, .int v115), (11, .int v100), (10, .int v88), (9, .int v79), (8, .int l8_69), (0, .ref b), (1, .ref (x 0)), (2, .ref a5), (3, .ref a6), (4, .ref a7), (5, .ref a8), (6, .ref a9), (7, .ref a10)] → W p l e room_1 s mm #[Value.ref b] below meth cd H locs (kc + 1) (kz + 6) (lw_Z below #[Value.ref b] s) (F0 mm 782 ls [.int b755, .int v748.1]) := by
            intro H locs ls hP hD hS hl
            refine lv_icmp_eq (tgt := 787) hx hb dL_law_782 (by decide) (fun c782 => ?_) (fun c782 => ?_)
            · replace h := if_t h c782
              refine lv_iload hx hb dL_law_787 (lv_at hl 0 rfl) ?_
              refine lv_if_ne (tgt := 805) hx hb dL_law_789 (by decide) (fun c789 => ?_) (fun c789 => ?_)
              · replace h := if_f h c789
                refine W.widen (k := kc + 3) (n := kz + 18) (by omega) (by omega) ?_
                exact hj805 v748.2.1 v748.2.2.1 v748.2.2.2 w5 w6 w7 g677 g720 g731 v79 l8_69 H locs ls h hP hD hS (lv_sub hl [8, 9, 10, 11, 12, 13, 14, 15, 16, 17] rfl)
              replace h := if_t h c789
              refine lv_aload hx hb dL_law_792 (lv_at hl 15 rfl) ?_
              refine lv_aload hx hb dL_law_794 (lv_at hl 16 rfl) ?_
              refine lv_aload hx hb dL_law_796 (lv_at hl 17 rfl) ?_
              refine lv_aload_n hx hb dL_law_798 rfl (lv_at hl 12 rfl) ?_
              refine lv_aload_n hx hb dL_law_799 rfl (lv_at hl 13 rfl) ?_
              refine lv_aload hx hb dL_law_800 (lv_at hl 14 rfl) ?_
              obtain ⟨v802, e802, h⟩ := bnd h
              refine cSp (av := [.ref a8, .ref a9, .ref a10, .ref a5, .ref a6, .ref a7]) (rest := []) (st1 := []) (k1 := kc + 1) (k2 := kz + 6) (wn := wSPo x ++ wFig (fun j => x (1 + j)) cy v748.2.1 ++ wFig (fun j => x (6 + j)) cy v748.2.2.1 ++ wP2 (fun j => x (11 + j)) cy v748.2.2.2 ++ wIA a5 cy 5 v802.1 ++ wIA a6 cy 40 v802.2.1 ++ wIA a7 cy 40 v802.2.2 ++ wIA a8 cy 5 g677 ++ wIA a9 cy 40 g720 ++ wIA a10 cy 40 g731 ++ wPF (fun j => x (11 + j)) cy (p_figs v748.2.2.2)) hx hb hml hown htg hN hK (c_L_copy l dC dI cy a8 a9 a10 a5 a6 a7 5 40 40 5 40 40 g677 g720 g731 w5 w6 w7  v802 e802) (g_S gw603 gw604 gw6 gw605) hdS_L_copy rfl ⟨⟨Nat.le_of_ble_eq_true rfl, Nat.le_of_ble_eq_true rfl⟩, (by show kc + 1 + 0 ≤ 600104; omega), (by show kz + 6 + 0 ≤ 7301314; omega)⟩ hP hD hS hA (perm_N (perm_ix 19 [16, 17, 18, 13, 14, 15] [0, 1, 2, 3, 4, 5, 6, 7, 8, 9, 10, 11, 12] rfl rfl rfl (by decide))) (perm_Nb (perm_ix 19 [0, 1, 2, 3, 4, 5, 6, 7, 8, 9, 10, 11, 12] [16, 17, 18, 13, 14, 15] rfl rfl rfl (by decide))) hl.1 rfl (Nat.le_of_ble_eq_true rfl) rfl (by show kc + 1 + 0 = kc + 1; omega) (by show kz + 6 + 0 = kz + 6; omega) dL_law_802 (fun H locs hP hD hS => ?_)
              refine W.widen (k := kc + 3) (n := kz + 18) (by omega) (by omega) ?_
              exact hj805 v748.2.1 v748.2.2.1 v748.2.2.2 v802.1 v802.2.1 v802.2.2 g677 g720 g731 v79 l8_69 H locs ls h hP hD hS (lv_sub hl [8, 9, 10, 11, 12, 13, 14, 15, 16, 17] rfl)
            replace h := if_f h c782
            refine lv_iconst (v := 0) hx hb dL_law_785 (by decide) ?_
            exact absurd (Option.some.inj h) (by decide)
          have h := e755
          clear e755
          refine lv_icmp_gt (tgt := 765) hx hb dL_law_755 (by decide) (fun c755 => ?_) (fun c755 => ?_)
          · replace h := if_t h c755
            refine lv_iconst (v := (-1)) hx hb dL_law_765 (by decide) ?_
            refine lv_goto (tgt := 782) hx hb dL_law_766 (by decide) ?_
            obtain rfl := Option.some.inj h
            exact hr782 H locs ls hP hD hS hl
          replace h := if_f h c755
          refine lv_iload hx hb dL_law_758 (lv_at hl 3 rfl) ?_
          refine lv_bipush (v := 14) hx hb dL_law_760 (by decide) ?_
          refine lv_icmp_le (tgt := 769) hx hb dL_law_762 (by decide) (fun c762 => ?_) (fun c762 => ?_)
          · replace h := if_t h c762
            refine lv_iload hx hb dL_law_769 (lv_at hl 0 rfl) ?_
            refine lv_if_le (tgt := 779) hx hb dL_law_771 (by decide) (fun c771 => ?_) (fun c771 => ?_)
            · replace h := if_t h c771
              refine lv_aload_n hx hb dL_law_779 rfl (lv_at hl 12 rfl) ?_
              refine lv_iconst (v := 0) hx hb dL_law_780 (by decide) ?_
              obtain ⟨v781, e781, h⟩ := bnd h
              refine x_iald (v := v781) hx hb hK hP 13 0 rfl rfl e781 dL_law_781 ?_
              obtain rfl := Option.some.inj h
              exact hr782 H locs ls hP hD hS hl
            replace h := if_f h c771
            refine lv_bipush (v := (-2)) hx hb dL_law_774 (by decide) ?_
            refine lv_goto (tgt := 782) hx hb dL_law_776 (by decide) ?_
            obtain rfl := Option.some.inj h
            exact hr782 H locs ls hP hD hS hl
          replace h := if_f h c762
          refine lv_iconst (v := (-1)) hx hb dL_law_765 (by decide) ?_
          refine lv_goto (tgt := 782) hx hb dL_law_766 (by decide) ?_
          obtain rfl := Option.some.inj h
          exact hr782 H locs ls hP hD hS hl
        replace h := if_t h c474
        refine lv_aload_n hx hb dL_law_477 rfl (lv_at hl 10 rfl) ?_
        refine lv_iconst (v := 1) hx hb dL_law_478 (by decide) ?_
        refine lv_iload hx hb dL_law_479 (lv_at hl 4 rfl) ?_
        refine lv_iadd hx hb dL_law_481 ?_
        obtain ⟨v482, e482, h⟩ := bnd h
        refine x_iald (v := v482) hx hb hK hP 13 0 rfl rfl e482 dL_law_482 ?_
        refine lv_iconst (v := 3) hx hb dL_law_483 (by decide) ?_
        obtain ⟨b484, e484, h⟩ := bnd h
        have hr492 : ∀ (H : Heap) (locs : List Loc) (ls : Array Slot), va_P (dC, dI) vwCl (wSPo x ++ wFig (fun j => x (1 + j)) cy F ++ wFig (fun j => x (6 + j)) cy D ++ wP2 (fun j => x (11 + j)) cy P ++ wIA a5 cy 5 w5 ++ wIA a6 cy 40 w6 ++ wIA a7 cy 40 w7 ++ wIA a8 cy 5 v164.1 ++ wIA a9 cy 40 v164.2.1 ++ wIA a10 cy 40 v164.2.2 ++ wPF (fun j => x (11 + j)) cy (p_figs P)) H → va_D (lwA s) (wSPo x ++ wFig (fun j => x (1 + j)) cy F ++ wFig (fun j => x (6 + j)) cy D ++ wP2 (fun j => x (11 + j)) cy P ++ wIA a5 cy 5 w5 ++ wIA a6 cy 40 w6 ++ wIA a7 cy 40 w7 ++ wIA a8 cy 5 v164.1 ++ wIA a9 cy 40 v164.2.1 ++ wIA a10 cy 40 v164.2.2 ++ wPF (fun j => x (11 + j)) cy (p_figs P)) → va_S (lwA s) s.heap H locs → lv_has ls 18 [(15, .int ((10 * v100) + v115)), (14, .int v139), (13, .int v127), (12, .int v115), (11, .int v100), (10, .int v88), (9, .int v79), (8, .int l8_69), (0, .ref b), (1, .ref (x 0)), (2, .ref a5), (3, .ref a6), (4, .ref a7), (5, .ref a8), (6, .ref a9), (7, .ref a10)] → W p l e room_1 s mm #[Value.ref b] below meth cd H locs (kc + 0) (kz + 0) (lw_Z below #[Value.ref b] s) (F0 mm 492 ls [.int b484]) := by
          intro H locs ls hP hD hS hl
          refine lv_istore (lv' := [(16, .int b484), (15, .int ((10 * v100) + v115)), (14, .int v139), (13, .int v127), (12, .int v115), (11, .int v100), (10, .int v88), (9, .int v79), (8, .int l8_69), (0, .ref b), (1, .ref (x 0)), (2, .ref a5), (3, .ref a6), (4, .ref a7), (5, .ref a8), (6, .ref a9), (7, .ref a10)]) hx hb dL_law_492 hl (by decide) rfl (fun ls hl => ?_)
          refine lv_iload hx hb dL_law_494 (lv_at hl 1 rfl) ?_
          refine lv_istore (lv' := [(17, .int ((10 * v100) + v115)), (16, .int b484), (15, .int ((10 * v100) + v115)), (14, .int v139), (13, .int v127), (12, .int v115), (11, .int v100), (10, .int v88), (9, .int v79), (8, .int l8_69), (0, .ref b), (1, .ref (x 0)), (2, .ref a5), (3, .ref a6), (4, .ref a7), (5, .ref a8), (6, .ref a9), (7, .ref a10)]) hx hb dL_law_496 hl (by decide) rfl (fun ls hl => ?_)
          have hL498 : ∀ (n498 : Nat) (F_498 : Fig) (D_498 : Fig) (P_498 : PastS) (w5_498 : Nat → Int32) (w6_498 : Nat → Int32) (w7_498 : Nat → Int32) (w8_498 : Nat → Int32) (w9_498 : Nat → Int32) (w10_498 : Nat → Int32) (l17_498 : Int32) (l16_498 : Int32) (l12_498 : Int32) (l11_498 : Int32) (l9_498 : Int32) (l8_498 : Int32) (H : Heap) (locs : List Loc) (ls : Array Slot), G_L_law_L498 (G_L_law_L69 L xs n69) L xs n498 F_498 D_498 P_498 w5_498 w6_498 w7_498 w8_498 w9_498 w10_498 l17_498 l16_498 l12_498 l11_498 l9_498 l8_498 = some 1 → va_P (dC, dI) vwCl (wSPo x ++ wFig (fun j => x (1 + j)) cy F_498 ++ wFig (fun j => x (6 + j)) cy D_498 ++ wP2 (fun j => x (11 + j)) cy P_498 ++ wIA a5 cy 5 w5_498 ++ wIA a6 cy 40 w6_498 ++ wIA a7 cy 40 w7_498 ++ wIA a8 cy 5 w8_498 ++ wIA a9 cy 40 w9_498 ++ wIA a10 cy 40 w10_498 ++ wPF (fun j => x (11 + j)) cy (p_figs P_498)) H → va_D (lwA s) (wSPo x ++ wFig (fun j => x (1 + j)) cy F_498 ++ wFig (fun j => x (6 + j)) cy D_498 ++ wP2 (fun j => x (11 + j)) cy P_498 ++ wIA a5 cy 5 w5_498 ++ wIA a6 cy 40 w6_498 ++ wIA a7 cy 40 w7_498 ++ wIA a8 cy 5 w8_498 ++ wIA a9 cy 40 w9_498 ++ wIA a10 cy 40 w10_498 ++ wPF (fun j => x (11 + j)) cy (p_figs P_498)) → va_S (lwA s) s.heap H locs → lv_has ls 18 [(17, .int l17_498), (16, .int l16_498), (12, .int l12_498), (11, .int l11_498), (9, .int l9_498), (8, .int l8_498), (0, .ref b), (1, .ref (x 0)), (2, .ref a5), (3, .ref a6), (4, .ref a7), (5, .ref a8), (6, .ref a9), (7, .ref a10)] → W p l e room_1 s mm #[Value.ref b] below meth cd H locs (kc + 0) (kz + 0) (lw_Z below #[Value.ref b] s) (F0 mm 498 ls []) := by
            intro n498
            induction n498 with
            | zero => intro F_498 D_498 P_498 w5_498 w6_498 w7_498 w8_498 w9_498 w10_498 l17_498 l16_498 l12_498 l11_498 l9_498 l8_498 H locs ls h; exact absurd h (by simp [G_L_law_L498])
            | succ n498 ih498 =>
              intro F_498 D_498 P_498 w5_498 w6_498 w7_498 w8_498 w9_498 w10_498 l17_498 l16_498 l12_498 l11_498 l9_498 l8_498 H locs ls h hP hD hS hl
              rw [G_L_law_L498] at h
              refine lv_iload hx hb dL_law_498 (lv_at hl 0 rfl) ?_
              refine lv_iconst (v := 1) hx hb dL_law_500 (by decide) ?_
              refine lv_iadd hx hb dL_law_501 ?_
              refine lv_bipush (v := 10) hx hb dL_law_502 (by decide) ?_
              refine lv_iload hx hb dL_law_504 (lv_at hl 3 rfl) ?_
              refine lv_imul hx hb dL_law_506 ?_
              refine lv_aload_n hx hb dL_law_507 rfl (lv_at hl 8 rfl) ?_
              refine lv_iconst (v := 1) hx hb dL_law_508 (by decide) ?_
              refine lv_iload hx hb dL_law_509 (lv_at hl 3 rfl) ?_
              refine lv_iadd hx hb dL_law_511 ?_
              obtain ⟨v512, e512, h⟩ := bnd h
              refine x_iald (v := v512) hx hb hK hP 13 0 rfl rfl e512 dL_law_512 ?_
              refine lv_iadd hx hb dL_law_513 ?_
              have hj552 : ∀ (F_552 : Fig) (D_552 : Fig) (P_552 : PastS) (w5_552 : Nat → Int32) (w6_552 : Nat → Int32) (w7_552 : Nat → Int32) (w8_552 : Nat → Int32) (w9_552 : Nat → Int32) (w10_552 : Nat → Int32) (l16_552 : Int32) (l12_552 : Int32) (l11_552 : Int32) (l9_552 : Int32) (l8_552 : Int32) (H : Heap) (locs : List Loc) (ls : Array Slot), G_L_law_j552 (G_L_law_L69 L xs n69) L xs F_552 D_552 P_552 w5_552 w6_552 w7_552 w8_552 w9_552 w10_552 l16_552 l12_552 l11_552 l9_552 l8_552 = some 1 → va_P (dC, dI) vwCl (wSPo x ++ wFig (fun j => x (1 + j)) cy F_552 ++ wFig (fun j => x (6 + j)) cy D_552 ++ wP2 (fun j => x (11 + j)) cy P_552 ++ wIA a5 cy 5 w5_552 ++ wIA a6 cy 40 w6_552 ++ wIA a7 cy 40 w7_552 ++ wIA a8 cy 5 w8_552 ++ wIA a9 cy 40 w9_552 ++ wIA a10 cy 40 w10_552 ++ wPF (fun j => x (11 + j)) cy (p_figs P_552)) H → va_D (lwA s) (wSPo x ++ wFig (fun j => x (1 + j)) cy F_552 ++ wFig (fun j => x (6 + j)) cy D_552 ++ wP2 (fun j => x (11 + j)) cy P_552 ++ wIA a5 cy 5 w5_552 ++ wIA a6 cy 40 w6_552 ++ wIA a7 cy 40 w7_552 ++ wIA a8 cy 5 w8_552 ++ wIA a9 cy 40 w9_552 ++ wIA a10 cy 40 w10_552 ++ wPF (fun j => x (11 + j)) cy (p_figs P_552)) → va_S (lwA s) s.heap H locs → lv_has ls 18 [(16, .int l16_552), (12, .int l12_552), (11, .int l11_552), (9, .int l9_552), (8, .int l8_552), (0, .ref b), (1, .ref (x 0)), (2, .ref a5), (3, .ref a6), (4, .ref a7), (5, .ref a8), (6, .ref a9), (7, .ref a10)] → W p l e room_1 s mm #[Value.ref b] below meth cd H locs (kc + 0) (kz + 0) (lw_Z below #[Value.ref b] s) (F0 mm 552 ls []) := by
                intro F_552 D_552 P_552 w5_552 w6_552 w7_552 w8_552 w9_552 w10_552 l16_552 l12_552 l11_552 l9_552 l8_552 H locs ls h hP hD hS hl
                unfold G_L_law_j552 at h
                refine lv_aload hx hb dL_law_552 (lv_at hl 10 rfl) ?_
                refine lv_iconst (v := 1) hx hb dL_law_554 (by decide) ?_
                refine lv_iload hx hb dL_law_555 (lv_at hl 2 rfl) ?_
                refine lv_iadd hx hb dL_law_557 ?_
                refine lv_dup2_11 hx hb dL_law_558 rfl rfl ?_
                obtain ⟨v559, e559, h⟩ := bnd h
                refine x_iald (v := v559) hx hb hK hP 16 0 rfl rfl e559 dL_law_559 ?_
                refine lv_iload hx hb dL_law_560 (lv_at hl 0 rfl) ?_
                obtain ⟨b562, e562, h⟩ := bnd h
                have hr570 : ∀ (H : Heap) (locs : List Loc) (ls : Array Slot), va_P (dC, dI) vwCl (wSPo x ++ wFig (fun j => x (1 + j)) cy F_552 ++ wFig (fun j => x (6 + j)) cy D_552 ++ wP2 (fun j => x (11 + j)) cy P_552 ++ wIA a5 cy 5 w5_552 ++ wIA a6 cy 40 w6_552 ++ wIA a7 cy 40 w7_552 ++ wIA a8 cy 5 w8_552 ++ wIA a9 cy 40 w9_552 ++ wIA a10 cy 40 w10_552 ++ wPF (fun j => x (11 + j)) cy (p_figs P_552)) H → va_D (lwA s) (wSPo x ++ wFig (fun j => x (1 + j)) cy F_552 ++ wFig (fun j => x (6 + j)) cy D_552 ++ wP2 (fun j => x (11 + j)) cy P_552 ++ wIA a5 cy 5 w5_552 ++ wIA a6 cy 40 w6_552 ++ wIA a7 cy 40 w7_552 ++ wIA a8 cy 5 w8_552 ++ wIA a9 cy 40 w9_552 ++ wIA a10 cy 40 w10_552 ++ wPF (fun j => x (11 + j)) cy (p_figs P_552)) → va_S (lwA s) s.heap H locs → lv_has ls 18 [(16, .int l16_552), (12, .int l12_552), (11, .int l11_552), (9, .int l9_552), (8, .int l8_552), (0, .ref b), (1, .ref (x 0)), (2, .ref a5), (3, .ref a6), (4, .ref a7), (5, .ref a8), (6, .ref a9), (7, .ref a10)] → W p l e room_1 s mm #[Value.ref b] below meth cd H locs (kc + 0) (kz + 0) (lw_Z below #[Value.ref b] s) (F0 mm 570 ls [.int b562, .int v559, .int (1 + l11_552), .ref a8]) := by
                  intro H locs ls hP hD hS hl
                  refine lv_isub hx hb dL_law_570 ?_
                  obtain ⟨g571, e571, h⟩ := bnd h
                  refine x_iast (g := g571) hx hb hK hP hD hS 16 0 rfl rfl e571 dL_law_571 (fun H locs hP hD hS => ?_)
                  have hP : va_P (dC, dI) vwCl (wSPo x ++ wFig (fun j => x (1 + j)) cy F_552 ++ wFig (fun j => x (6 + j)) cy D_552 ++ wP2 (fun j => x (11 + j)) cy P_552 ++ wIA a5 cy 5 w5_552 ++ wIA a6 cy 40 w6_552 ++ wIA a7 cy 40 w7_552 ++ wIA a8 cy 5 g571 ++ wIA a9 cy 40 w9_552 ++ wIA a10 cy 40 w10_552 ++ wPF (fun j => x (11 + j)) cy (p_figs P_552)) H := hP
                  have hD : va_D (lwA s) (wSPo x ++ wFig (fun j => x (1 + j)) cy F_552 ++ wFig (fun j => x (6 + j)) cy D_552 ++ wP2 (fun j => x (11 + j)) cy P_552 ++ wIA a5 cy 5 w5_552 ++ wIA a6 cy 40 w6_552 ++ wIA a7 cy 40 w7_552 ++ wIA a8 cy 5 g571 ++ wIA a9 cy 40 w9_552 ++ wIA a10 cy 40 w10_552 ++ wPF (fun j => x (11 + j)) cy (p_figs P_552)) := hD
                  refine lv_iload hx hb dL_law_572 (lv_at hl 0 rfl) ?_
                  obtain ⟨b574, e574, h⟩ := bnd h
                  have hr594 : ∀ (H : Heap) (locs : List Loc) (ls : Array Slot), va_P (dC, dI) vwCl (wSPo x ++ wFig (fun j => x (1 + j)) cy F_552 ++ wFig (fun j => x (6 + j)) cy D_552 ++ wP2 (fun j => x (11 + j)) cy P_552 ++ wIA a5 cy 5 w5_552 ++ wIA a6 cy 40 w6_552 ++ wIA a7 cy 40 w7_552 ++ wIA a8 cy 5 g571 ++ wIA a9 cy 40 w9_552 ++ wIA a10 cy 40 w10_552 ++ wPF (fun j => x (11 + j)) cy (p_figs P_552)) H → va_D (lwA s) (wSPo x ++ wFig (fun j => x (1 + j)) cy F_552 ++ wFig (fun j => x (6 + j)) cy D_552 ++ wP2 (fun j => x (11 + j)) cy P_552 ++ wIA a5 cy 5 w5_552 ++ wIA a6 cy 40 w6_552 ++ wIA a7 cy 40 w7_552 ++ wIA a8 cy 5 g571 ++ wIA a9 cy 40 w9_552 ++ wIA a10 cy 40 w10_552 ++ wPF (fun j => x (11 + j)) cy (p_figs P_552)) → va_S (lwA s) s.heap H locs → lv_has ls 18 [(16, .int l16_552), (12, .int l12_552), (11, .int l11_552), (9, .int l9_552), (8, .int l8_552), (0, .ref b), (1, .ref (x 0)), (2, .ref a5), (3, .ref a6), (4, .ref a7), (5, .ref a8), (6, .ref a9), (7, .ref a10)] → W p l e room_1 s mm #[Value.ref b] below meth cd H locs (kc + 0) (kz + 0) (lw_Z below #[Value.ref b] s) (F0 mm 594 ls [.int b574]) := by
                    intro H locs ls hP hD hS hl
                    refine lv_istore (lv' := [(17, .int b574), (16, .int l16_552), (12, .int l12_552), (11, .int l11_552), (9, .int l9_552), (8, .int l8_552), (0, .ref b), (1, .ref (x 0)), (2, .ref a5), (3, .ref a6), (4, .ref a7), (5, .ref a8), (6, .ref a9), (7, .ref a10)]) hx hb dL_law_594 hl (by decide) rfl (fun ls hl => ?_)
                    refine lv_aload_n hx hb dL_law_596 rfl (lv_at hl 7 rfl) ?_
                    refine lv_iload hx hb dL_law_597 (lv_at hl 3 rfl) ?_
                    refine lv_iload hx hb dL_law_599 (lv_at hl 2 rfl) ?_
                    obtain ⟨v601, e601, h⟩ := bnd h
                    refine cLWp (av := [.ref (x 0), .int l11_552, .int l12_552]) (rest := []) (st1 := [.int v601.1]) (k1 := kc + 2) (k2 := kz + 12) (wn := wSPo x ++ wFig (fun j => x (1 + j)) cy v601.2.1 ++ wFig (fun j => x (6 + j)) cy v601.2.2.1 ++ wP2 (fun j => x (11 + j)) cy v601.2.2.2 ++ wIA a5 cy 5 w5_552 ++ wIA a6 cy 40 w6_552 ++ wIA a7 cy 40 w7_552 ++ wIA a8 cy 5 g571 ++ wIA a9 cy 40 w9_552 ++ wIA a10 cy 40 w10_552 ++ wPF (fun j => x (11 + j)) cy (p_figs v601.2.2.2)) hx hb hml hown htg hN hK hX0 hNC (c_L_remove l dC dI cy hlt x F_552 D_552 P_552 l11_552 l12_552 v601 e601) ⟨gw398, gw399, gw6, cw_remove⟩ hdS_L_remove rfl ⟨⟨Nat.le_of_ble_eq_true rfl, Nat.le_of_ble_eq_true rfl⟩, (by show kc + 0 + 2 ≤ 600104; omega), (by show kz + 0 + 12 ≤ 7301314; omega)⟩ hP hD hS hA (perm_T (perm_ix 19 [0, 1, 2, 3, 4, 5, 6, 7, 8, 9, 10, 11, 12] [13, 14, 15, 16, 17, 18] rfl rfl rfl (by decide))) (perm_Tb (perm_ix 19 [13, 14, 15, 16, 17, 18] [0, 1, 2, 3, 4, 5, 6, 7, 8, 9, 10, 11, 12] rfl rfl rfl (by decide))) hl.1 rfl (Nat.le_of_ble_eq_true rfl) rfl (by show kc + 0 + 2 = kc + 2; omega) (by show kz + 0 + 12 = kz + 12; omega) dL_law_601 (fun H locs hP hD hS => ?_)
                    refine lv_iload hx hb dL_law_604 (lv_at hl 0 rfl) ?_
                    obtain ⟨b606, e606, h⟩ := bnd h
                    have hr623 : ∀ (H : Heap) (locs : List Loc) (ls : Array Slot), va_P (dC, dI) vwCl (wSPo x ++ wFig (fun j => x (1 + j)) cy v601.2.1 ++ wFig (fun j => x (6 + j)) cy v601.2.2.1 ++ wP2 (fun j => x (11 + j)) cy v601.2.2.2 ++ wIA a5 cy 5 w5_552 ++ wIA a6 cy 40 w6_552 ++ wIA a7 cy 40 w7_552 ++ wIA a8 cy 5 g571 ++ wIA a9 cy 40 w9_552 ++ wIA a10 cy 40 w10_552 ++ wPF (fun j => x (11 + j)) cy (p_figs v601.2.2.2)) H → va_D (lwA s) (wSPo x ++ wFig (fun j => x (1 + j)) cy v601.2.1 ++ wFig (fun j => x (6 + j)) cy v601.2.2.1 ++ wP2 (fun j => x (11 + j)) cy v601.2.2.2 ++ wIA a5 cy 5 w5_552 ++ wIA a6 cy 40 w6_552 ++ wIA a7 cy 40 w7_552 ++ wIA a8 cy 5 g571 ++ wIA a9 cy 40 w9_552 ++ wIA a10 cy 40 w10_552 ++ wPF (fun j => x (11 + j)) cy (p_figs v601.2.2.2)) → va_S (lwA s) s.heap H locs → lv_has ls 18 [(17, .int b574), (16, .int l16_552), (12, .int l12_552), (11, .int l11_552), (9, .int l9_552), (8, .int l8_552), (0, .ref b), (1, .ref (x 0)), (2, .ref a5), (3, .ref a6), (4, .ref a7), (5, .ref a8), (6, .ref a9), (7, .ref a10)] → W p l e room_1 s mm #[Value.ref b] below meth cd H locs (kc + 2) (kz + 12) (lw_Z below #[Value.ref b] s) (F0 mm 623 ls [.int b606, .int v601.1]) := by
                      intro H locs ls hP hD hS hl
                      refine lv_icmp_eq (tgt := 628) hx hb dL_law_623 (by decide) (fun c623 => ?_) (fun c623 => ?_)
                      · replace h := if_t h c623
                        refine lv_iload hx hb dL_law_628 (lv_at hl 0 rfl) ?_
                        have hj646 : ∀ (F_646 : Fig) (D_646 : Fig) (P_646 : PastS) (w5_646 : Nat → Int32) (w6_646 : Nat → Int32) (w7_646 : Nat → Int32) (w8_646 : Nat → Int32) (w9_646 : Nat → Int32) (w10_646 : Nat → Int32) (l9_646 : Int32) (l8_646 : Int32) (H : Heap) (locs : List Loc) (ls : Array Slot), G_L_law_j646 (G_L_law_L69 L xs n69) L xs F_646 D_646 P_646 w5_646 w6_646 w7_646 w8_646 w9_646 w10_646 l9_646 l8_646 = some 1 → va_P (dC, dI) vwCl (wSPo x ++ wFig (fun j => x (1 + j)) cy F_646 ++ wFig (fun j => x (6 + j)) cy D_646 ++ wP2 (fun j => x (11 + j)) cy P_646 ++ wIA a5 cy 5 w5_646 ++ wIA a6 cy 40 w6_646 ++ wIA a7 cy 40 w7_646 ++ wIA a8 cy 5 w8_646 ++ wIA a9 cy 40 w9_646 ++ wIA a10 cy 40 w10_646 ++ wPF (fun j => x (11 + j)) cy (p_figs P_646)) H → va_D (lwA s) (wSPo x ++ wFig (fun j => x (1 + j)) cy F_646 ++ wFig (fun j => x (6 + j)) cy D_646 ++ wP2 (fun j => x (11 + j)) cy P_646 ++ wIA a5 cy 5 w5_646 ++ wIA a6 cy 40 w6_646 ++ wIA a7 cy 40 w7_646 ++ wIA a8 cy 5 w8_646 ++ wIA a9 cy 40 w9_646 ++ wIA a10 cy 40 w10_646 ++ wPF (fun j => x (11 + j)) cy (p_figs P_646)) → va_S (lwA s) s.heap H locs → lv_has ls 18 [(9, .int l9_646), (8, .int l8_646), (0, .ref b), (1, .ref (x 0)), (2, .ref a5), (3, .ref a6), (4, .ref a7), (5, .ref a8), (6, .ref a9), (7, .ref a10)] → W p l e room_1 s mm #[Value.ref b] below meth cd H locs (kc + 2) (kz + 12) (lw_Z below #[Value.ref b] s) (F0 mm 646 ls []) := by
                          intro F_646 D_646 P_646 w5_646 w6_646 w7_646 w8_646 w9_646 w10_646 l9_646 l8_646 H locs ls h hP hD hS hl
                          unfold G_L_law_j646 at h
                          refine lv_goto (tgt := 805) hx hb dL_law_646 (by decide) ?_
                          refine W.widen (k := kc + 3) (n := kz + 18) (by omega) (by omega) ?_
                          exact hj805 F_646 D_646 P_646 w5_646 w6_646 w7_646 w8_646 w9_646 w10_646 l9_646 l8_646 H locs ls h hP hD hS (lv_sub hl [0, 1, 2, 3, 4, 5, 6, 7, 8, 9] rfl)
                        refine lv_if_eq (tgt := 646) hx hb dL_law_630 (by decide) (fun c630 => ?_) (fun c630 => ?_)
                        · replace h := if_t h c630
                          exact hj646 v601.2.1 v601.2.2.1 v601.2.2.2 w5_552 w6_552 w7_552 g571 w9_552 w10_552 l9_552 l8_552 H locs ls h hP hD hS (lv_sub hl [4, 5, 6, 7, 8, 9, 10, 11, 12, 13] rfl)
                        replace h := if_f h c630
                        refine lv_aload hx hb dL_law_633 (lv_at hl 11 rfl) ?_
                        refine lv_aload hx hb dL_law_635 (lv_at hl 12 rfl) ?_
                        refine lv_aload hx hb dL_law_637 (lv_at hl 13 rfl) ?_
                        refine lv_aload_n hx hb dL_law_639 rfl (lv_at hl 8 rfl) ?_
                        refine lv_aload_n hx hb dL_law_640 rfl (lv_at hl 9 rfl) ?_
                        refine lv_aload hx hb dL_law_641 (lv_at hl 10 rfl) ?_
                        obtain ⟨v643, e643, h⟩ := bnd h
                        refine cSp (av := [.ref a8, .ref a9, .ref a10, .ref a5, .ref a6, .ref a7]) (rest := []) (st1 := []) (k1 := kc + 2) (k2 := kz + 12) (wn := wSPo x ++ wFig (fun j => x (1 + j)) cy v601.2.1 ++ wFig (fun j => x (6 + j)) cy v601.2.2.1 ++ wP2 (fun j => x (11 + j)) cy v601.2.2.2 ++ wIA a5 cy 5 v643.1 ++ wIA a6 cy 40 v643.2.1 ++ wIA a7 cy 40 v643.2.2 ++ wIA a8 cy 5 g571 ++ wIA a9 cy 40 w9_552 ++ wIA a10 cy 40 w10_552 ++ wPF (fun j => x (11 + j)) cy (p_figs v601.2.2.2)) hx hb hml hown htg hN hK (c_L_copy l dC dI cy a8 a9 a10 a5 a6 a7 5 40 40 5 40 40 g571 w9_552 w10_552 w5_552 w6_552 w7_552  v643 e643) (g_S gw603 gw604 gw6 gw605) hdS_L_copy rfl ⟨⟨Nat.le_of_ble_eq_true rfl, Nat.le_of_ble_eq_true rfl⟩, (by show kc + 2 + 0 ≤ 600104; omega), (by show kz + 12 + 0 ≤ 7301314; omega)⟩ hP hD hS hA (perm_N (perm_ix 19 [16, 17, 18, 13, 14, 15] [0, 1, 2, 3, 4, 5, 6, 7, 8, 9, 10, 11, 12] rfl rfl rfl (by decide))) (perm_Nb (perm_ix 19 [0, 1, 2, 3, 4, 5, 6, 7, 8, 9, 10, 11, 12] [16, 17, 18, 13, 14, 15] rfl rfl rfl (by decide))) hl.1 rfl (Nat.le_of_ble_eq_true rfl) rfl (by show kc + 2 + 0 = kc + 2; omega) (by show kz + 12 + 0 = kz + 12; omega) dL_law_643 (fun H locs hP hD hS => ?_)
                        exact hj646 v601.2.1 v601.2.2.1 v601.2.2.2 v643.1 v643.2.1 v643.2.2 g571 w9_552 w10_552 l9_552 l8_552 H locs ls h hP hD hS (lv_sub hl [4, 5, 6, 7, 8, 9, 10, 11, 12, 13] rfl)
                      replace h := if_f h c623
                      refine lv_iconst (v := 0) hx hb dL_law_626 (by decide) ?_
                      exact absurd (Option.some.inj h) (by decide)
                    have h := e606
                    clear e606
                    refine lv_if_eq (tgt := 621) hx hb dL_law_606 (by decide) (fun c606 => ?_) (fun c606 => ?_)
                    · replace h := if_t h c606
                      refine lv_bipush (v := (-2)) hx hb dL_law_621 (by decide) ?_
                      obtain rfl := Option.some.inj h
                      exact hr623 H locs ls hP hD hS hl
                    replace h := if_f h c606
                    refine lv_aload hx hb dL_law_609 (lv_at hl 11 rfl) ?_
                    refine lv_aload hx hb dL_law_611 (lv_at hl 12 rfl) ?_
                    refine lv_aload hx hb dL_law_613 (lv_at hl 13 rfl) ?_
                    obtain ⟨v615, e615, h⟩ := bnd h
                    refine cSp (av := [.ref a8, .ref a9, .ref a10]) (rest := [.int v601.1]) (st1 := [.int v615, .int v601.1]) (k1 := kc + 2) (k2 := kz + 12) (wn := wSPo x ++ wFig (fun j => x (1 + j)) cy v601.2.1 ++ wFig (fun j => x (6 + j)) cy v601.2.2.1 ++ wP2 (fun j => x (11 + j)) cy v601.2.2.2 ++ wIA a5 cy 5 w5_552 ++ wIA a6 cy 40 w6_552 ++ wIA a7 cy 40 w7_552 ++ wIA a8 cy 5 g571 ++ wIA a9 cy 40 w9_552 ++ wIA a10 cy 40 w10_552 ++ wPF (fun j => x (11 + j)) cy (p_figs v601.2.2.2)) hx hb hml hown htg hN hK (c_L_area l dC dI cy a8 a9 a10 5 40 40 g571 w9_552 w10_552  v615 e615) (g_S gw471 gw472 gw6 gw473) hdS_L_area rfl ⟨⟨Nat.le_of_ble_eq_true rfl, Nat.le_of_ble_eq_true rfl⟩, (by show kc + 2 + 0 ≤ 600104; omega), (by show kz + 12 + 0 ≤ 7301314; omega)⟩ hP hD hS hA (perm_N (perm_ix 19 [16, 17, 18] [0, 1, 2, 3, 4, 5, 6, 7, 8, 9, 10, 11, 12, 13, 14, 15] rfl rfl rfl (by decide))) (perm_Nb (perm_ix 19 [0, 1, 2, 3, 4, 5, 6, 7, 8, 9, 10, 11, 12, 13, 14, 15] [16, 17, 18] rfl rfl rfl (by decide))) hl.1 rfl (Nat.le_of_ble_eq_true rfl) rfl (by show kc + 2 + 0 = kc + 2; omega) (by show kz + 12 + 0 = kz + 12; omega) dL_law_615 (fun H locs hP hD hS => ?_)
                    refine lv_goto (tgt := 623) hx hb dL_law_618 (by decide) ?_
                    obtain rfl := Option.some.inj h
                    exact hr623 H locs ls hP hD hS hl
                  have h := e574
                  clear e574
                  refine lv_if_ne (tgt := 593) hx hb dL_law_574 (by decide) (fun c574 => ?_) (fun c574 => ?_)
                  · replace h := if_f h c574
                    refine lv_iconst (v := 0) hx hb dL_law_593 (by decide) ?_
                    obtain rfl := Option.some.inj h
                    exact hr594 H locs ls hP hD hS hl
                  replace h := if_t h c574
                  refine lv_aload hx hb dL_law_577 (lv_at hl 10 rfl) ?_
                  refine lv_aload hx hb dL_law_579 (lv_at hl 11 rfl) ?_
                  refine lv_aload hx hb dL_law_581 (lv_at hl 12 rfl) ?_
                  obtain ⟨v583, e583, h⟩ := bnd h
                  refine cSp (av := [.ref a8, .ref a9, .ref a10]) (rest := []) (st1 := [.int v583]) (k1 := kc + 0) (k2 := kz + 0) (wn := wSPo x ++ wFig (fun j => x (1 + j)) cy F_552 ++ wFig (fun j => x (6 + j)) cy D_552 ++ wP2 (fun j => x (11 + j)) cy P_552 ++ wIA a5 cy 5 w5_552 ++ wIA a6 cy 40 w6_552 ++ wIA a7 cy 40 w7_552 ++ wIA a8 cy 5 g571 ++ wIA a9 cy 40 w9_552 ++ wIA a10 cy 40 w10_552 ++ wPF (fun j => x (11 + j)) cy (p_figs P_552)) hx hb hml hown htg hN hK (c_L_broken l dC dI cy a8 a9 a10 5 40 40 g571 w9_552 w10_552  v583 e583) (g_S gw450 gw451 gw6 gw452) hdS_L_broken rfl ⟨⟨Nat.le_of_ble_eq_true rfl, Nat.le_of_ble_eq_true rfl⟩, (by show kc + 0 + 0 ≤ 600104; omega), (by show kz + 0 + 0 ≤ 7301314; omega)⟩ hP hD hS hA (perm_N (perm_ix 19 [16, 17, 18] [0, 1, 2, 3, 4, 5, 6, 7, 8, 9, 10, 11, 12, 13, 14, 15] rfl rfl rfl (by decide))) (perm_Nb (perm_ix 19 [0, 1, 2, 3, 4, 5, 6, 7, 8, 9, 10, 11, 12, 13, 14, 15] [16, 17, 18] rfl rfl rfl (by decide))) hl.1 rfl (Nat.le_of_ble_eq_true rfl) rfl (by show kc + 0 + 0 = kc + 0; omega) (by show kz + 0 + 0 = kz + 0; omega) dL_law_583 (fun H locs hP hD hS => ?_)
                  refine lv_if_ne (tgt := 593) hx hb dL_law_586 (by decide) (fun c586 => ?_) (fun c586 => ?_)
                  · replace h := if_f h c586
                    refine lv_iconst (v := 0) hx hb dL_law_593 (by decide) ?_
                    obtain rfl := Option.some.inj h
                    exact hr594 H locs ls hP hD hS hl
                  replace h := if_t h c586
                  refine lv_iconst (v := 1) hx hb dL_law_589 (by decide) ?_
                  refine lv_goto (tgt := 594) hx hb dL_law_590 (by decide) ?_
                  obtain rfl := Option.some.inj h
                  exact hr594 H locs ls hP hD hS hl
                have h := e562
                clear e562
                refine lv_if_eq (tgt := 569) hx hb dL_law_562 (by decide) (fun c562 => ?_) (fun c562 => ?_)
                · replace h := if_t h c562
                  refine lv_iconst (v := 1) hx hb dL_law_569 (by decide) ?_
                  obtain rfl := Option.some.inj h
                  exact hr570 H locs ls hP hD hS hl
                replace h := if_f h c562
                refine lv_iconst (v := 0) hx hb dL_law_565 (by decide) ?_
                refine lv_goto (tgt := 570) hx hb dL_law_566 (by decide) ?_
                obtain rfl := Option.some.inj h
                exact hr570 H locs ls hP hD hS hl
              refine lv_icmp_ge (tgt := 552) hx hb dL_law_514 (by decide) (fun c514 => ?_) (fun c514 => ?_)
              · replace h := if_t h c514
                exact hj552 F_498 D_498 P_498 w5_498 w6_498 w7_498 w8_498 w9_498 w10_498 l16_498 l12_498 l11_498 l9_498 l8_498 H locs ls h hP hD hS (lv_sub hl [1, 2, 3, 4, 5, 6, 7, 8, 9, 10, 11, 12, 13] rfl)
              replace h := if_f h c514
              refine lv_iload hx hb dL_law_517 (lv_at hl 1 rfl) ?_
              refine lv_if_ne (tgt := 552) hx hb dL_law_519 (by decide) (fun c519 => ?_) (fun c519 => ?_)
              · replace h := if_f h c519
                exact hj552 F_498 D_498 P_498 w5_498 w6_498 w7_498 w8_498 w9_498 w10_498 l16_498 l12_498 l11_498 l9_498 l8_498 H locs ls h hP hD hS (lv_sub hl [1, 2, 3, 4, 5, 6, 7, 8, 9, 10, 11, 12, 13] rfl)
              replace h := if_t h c519
              refine lv_aload hx hb dL_law_522 (lv_at hl 12 rfl) ?_
              refine lv_iload hx hb dL_law_524 (lv_at hl 0 rfl) ?_
              refine lv_aload hx hb dL_law_526 (lv_at hl 12 rfl) ?_
              refine lv_iload hx hb dL_law_528 (lv_at hl 0 rfl) ?_
              refine lv_iconst (v := 1) hx hb dL_law_530 (by decide) ?_
              refine lv_iadd hx hb dL_law_531 ?_
              obtain ⟨v532, e532, h⟩ := bnd h
              refine x_iald (v := v532) hx hb hK hP 17 0 rfl rfl e532 dL_law_532 ?_
              obtain ⟨g533, e533, h⟩ := bnd h
              refine x_iast (g := g533) hx hb hK hP hD hS 17 0 rfl rfl e533 dL_law_533 (fun H locs hP hD hS => ?_)
              have hP : va_P (dC, dI) vwCl (wSPo x ++ wFig (fun j => x (1 + j)) cy F_498 ++ wFig (fun j => x (6 + j)) cy D_498 ++ wP2 (fun j => x (11 + j)) cy P_498 ++ wIA a5 cy 5 w5_498 ++ wIA a6 cy 40 w6_498 ++ wIA a7 cy 40 w7_498 ++ wIA a8 cy 5 w8_498 ++ wIA a9 cy 40 g533 ++ wIA a10 cy 40 w10_498 ++ wPF (fun j => x (11 + j)) cy (p_figs P_498)) H := hP
              have hD : va_D (lwA s) (wSPo x ++ wFig (fun j => x (1 + j)) cy F_498 ++ wFig (fun j => x (6 + j)) cy D_498 ++ wP2 (fun j => x (11 + j)) cy P_498 ++ wIA a5 cy 5 w5_498 ++ wIA a6 cy 40 w6_498 ++ wIA a7 cy 40 w7_498 ++ wIA a8 cy 5 w8_498 ++ wIA a9 cy 40 g533 ++ wIA a10 cy 40 w10_498 ++ wPF (fun j => x (11 + j)) cy (p_figs P_498)) := hD
              refine lv_aload hx hb dL_law_534 (lv_at hl 13 rfl) ?_
              refine lv_iload hx hb dL_law_536 (lv_at hl 0 rfl) ?_
              refine lv_aload hx hb dL_law_538 (lv_at hl 13 rfl) ?_
              refine lv_iload hx hb dL_law_540 (lv_at hl 0 rfl) ?_
              refine lv_iconst (v := 1) hx hb dL_law_542 (by decide) ?_
              refine lv_iadd hx hb dL_law_543 ?_
              obtain ⟨v544, e544, h⟩ := bnd h
              refine x_iald (v := v544) hx hb hK hP 18 0 rfl rfl e544 dL_law_544 ?_
              obtain ⟨g545, e545, h⟩ := bnd h
              refine x_iast (g := g545) hx hb hK hP hD hS 18 0 rfl rfl e545 dL_law_545 (fun H locs hP hD hS => ?_)
              have hP : va_P (dC, dI) vwCl (wSPo x ++ wFig (fun j => x (1 + j)) cy F_498 ++ wFig (fun j => x (6 + j)) cy D_498 ++ wP2 (fun j => x (11 + j)) cy P_498 ++ wIA a5 cy 5 w5_498 ++ wIA a6 cy 40 w6_498 ++ wIA a7 cy 40 w7_498 ++ wIA a8 cy 5 w8_498 ++ wIA a9 cy 40 g533 ++ wIA a10 cy 40 g545 ++ wPF (fun j => x (11 + j)) cy (p_figs P_498)) H := hP
              have hD : va_D (lwA s) (wSPo x ++ wFig (fun j => x (1 + j)) cy F_498 ++ wFig (fun j => x (6 + j)) cy D_498 ++ wP2 (fun j => x (11 + j)) cy P_498 ++ wIA a5 cy 5 w5_498 ++ wIA a6 cy 40 w6_498 ++ wIA a7 cy 40 w7_498 ++ wIA a8 cy 5 w8_498 ++ wIA a9 cy 40 g533 ++ wIA a10 cy 40 g545 ++ wPF (fun j => x (11 + j)) cy (p_figs P_498)) := hD
              refine lv_iinc (v := l17_498 + 1) (lv' := [(17, .int (l17_498 + 1)), (16, .int l16_498), (12, .int l12_498), (11, .int l11_498), (9, .int l9_498), (8, .int l8_498), (0, .ref b), (1, .ref (x 0)), (2, .ref a5), (3, .ref a6), (4, .ref a7), (5, .ref a8), (6, .ref a9), (7, .ref a10)]) hx hb dL_law_546 hl (k := 0) rfl rfl (by decide) rfl (fun ls hl => ?_)
              refine lv_goto (tgt := 498) hx hb dL_law_549 (by decide) ?_
              exact ih498 F_498 D_498 P_498 w5_498 w6_498 w7_498 w8_498 g533 g545 (l17_498 + 1) l16_498 l12_498 l11_498 l9_498 l8_498 H locs ls h hP hD hS (lv_sub hl [0, 1, 2, 3, 4, 5, 6, 7, 8, 9, 10, 11, 12, 13] rfl)
          exact hL498 FU F D P w5 w6 w7 v164.1 v164.2.1 v164.2.2 ((10 * v100) + v115) b484 v115 v100 v79 l8_69 H locs ls h hP hD hS (lv_sub hl [0, 1, 5, 6, 8, 9, 10, 11, 12, 13, 14, 15, 16, 17] rfl)
        have h := e484
        clear e484
        refine lv_icmp_ne (tgt := 491) hx hb dL_law_484 (by decide) (fun c484 => ?_) (fun c484 => ?_)
        · replace h := if_f h c484
          refine lv_iconst (v := 0) hx hb dL_law_491 (by decide) ?_
          obtain rfl := Option.some.inj h
          exact hr492 H locs ls hP hD hS hl
        replace h := if_t h c484
        refine lv_iconst (v := 1) hx hb dL_law_487 (by decide) ?_
        refine lv_goto (tgt := 492) hx hb dL_law_488 (by decide) ?_
        obtain rfl := Option.some.inj h
        exact hr492 H locs ls hP hD hS hl
      replace h := if_f h c276
      refine lv_aload_n hx hb dL_law_279 rfl (lv_at hl 10 rfl) ?_
      refine lv_iconst (v := 1) hx hb dL_law_280 (by decide) ?_
      refine lv_iload hx hb dL_law_281 (lv_at hl 4 rfl) ?_
      refine lv_iadd hx hb dL_law_283 ?_
      obtain ⟨v284, e284, h⟩ := bnd h
      refine x_iald (v := v284) hx hb hK hP 13 0 rfl rfl e284 dL_law_284 ?_
      refine lv_bipush (v := 10) hx hb dL_law_285 (by decide) ?_
      obtain ⟨b287, e287, h⟩ := bnd h
      have hr295 : ∀ (H : Heap) (locs : List Loc) (ls : Array Slot), va_P (dC, dI) vwCl (wSPo x ++ wFig (fun j => x (1 + j)) cy F ++ wFig (fun j => x (6 + j)) cy D ++ wP2 (fun j => x (11 + j)) cy P ++ wIA a5 cy 5 w5 ++ wIA a6 cy 40 w6 ++ wIA a7 cy 40 w7 ++ wIA a8 cy 5 v164.1 ++ wIA a9 cy 40 v164.2.1 ++ wIA a10 cy 40 v164.2.2 ++ wPF (fun j => x (11 + j)) cy (p_figs P)) H → va_D (lwA s) (wSPo x ++ wFig (fun j => x (1 + j)) cy F ++ wFig (fun j => x (6 + j)) cy D ++ wP2 (fun j => x (11 + j)) cy P ++ wIA a5 cy 5 w5 ++ wIA a6 cy 40 w6 ++ wIA a7 cy 40 w7 ++ wIA a8 cy 5 v164.1 ++ wIA a9 cy 40 v164.2.1 ++ wIA a10 cy 40 v164.2.2 ++ wPF (fun j => x (11 + j)) cy (p_figs P)) → va_S (lwA s) s.heap H locs → lv_has ls 18 [(15, .int ((10 * v100) + v115)), (14, .int v139), (13, .int v127), (12, .int v115), (11, .int v100), (10, .int v88), (9, .int v79), (8, .int l8_69), (0, .ref b), (1, .ref (x 0)), (2, .ref a5), (3, .ref a6), (4, .ref a7), (5, .ref a8), (6, .ref a9), (7, .ref a10)] → W p l e room_1 s mm #[Value.ref b] below meth cd H locs (kc + 0) (kz + 0) (lw_Z below #[Value.ref b] s) (F0 mm 295 ls [.int b287]) := by
        intro H locs ls hP hD hS hl
        refine lv_istore (lv' := [(16, .int b287), (15, .int ((10 * v100) + v115)), (14, .int v139), (13, .int v127), (12, .int v115), (11, .int v100), (10, .int v88), (9, .int v79), (8, .int l8_69), (0, .ref b), (1, .ref (x 0)), (2, .ref a5), (3, .ref a6), (4, .ref a7), (5, .ref a8), (6, .ref a9), (7, .ref a10)]) hx hb dL_law_295 hl (by decide) rfl (fun ls hl => ?_)
        refine lv_bipush (v := 10) hx hb dL_law_297 (by decide) ?_
        refine lv_iload hx hb dL_law_299 (lv_at hl 5 rfl) ?_
        refine lv_imul hx hb dL_law_301 ?_
        refine lv_aload_n hx hb dL_law_302 rfl (lv_at hl 11 rfl) ?_
        refine lv_iconst (v := 1) hx hb dL_law_303 (by decide) ?_
        refine lv_iload hx hb dL_law_304 (lv_at hl 5 rfl) ?_
        refine lv_iadd hx hb dL_law_306 ?_
        obtain ⟨v307, e307, h⟩ := bnd h
        refine x_iald (v := v307) hx hb hK hP 13 0 rfl rfl e307 dL_law_307 ?_
        refine lv_iadd hx hb dL_law_308 ?_
        refine lv_istore (lv' := [(17, .int ((10 * v100) + v307)), (16, .int b287), (15, .int ((10 * v100) + v115)), (14, .int v139), (13, .int v127), (12, .int v115), (11, .int v100), (10, .int v88), (9, .int v79), (8, .int l8_69), (0, .ref b), (1, .ref (x 0)), (2, .ref a5), (3, .ref a6), (4, .ref a7), (5, .ref a8), (6, .ref a9), (7, .ref a10)]) hx hb dL_law_309 hl (by decide) rfl (fun ls hl => ?_)
        have hL311 : ∀ (n311 : Nat) (F_311 : Fig) (D_311 : Fig) (P_311 : PastS) (w5_311 : Nat → Int32) (w6_311 : Nat → Int32) (w7_311 : Nat → Int32) (w8_311 : Nat → Int32) (w9_311 : Nat → Int32) (w10_311 : Nat → Int32) (l17_311 : Int32) (l16_311 : Int32) (l15_311 : Int32) (l14_311 : Int32) (l13_311 : Int32) (l12_311 : Int32) (l11_311 : Int32) (l9_311 : Int32) (l8_311 : Int32) (H : Heap) (locs : List Loc) (ls : Array Slot), G_L_law_L311 (G_L_law_L69 L xs n69) L xs n311 F_311 D_311 P_311 w5_311 w6_311 w7_311 w8_311 w9_311 w10_311 l17_311 l16_311 l15_311 l14_311 l13_311 l12_311 l11_311 l9_311 l8_311 = some 1 → va_P (dC, dI) vwCl (wSPo x ++ wFig (fun j => x (1 + j)) cy F_311 ++ wFig (fun j => x (6 + j)) cy D_311 ++ wP2 (fun j => x (11 + j)) cy P_311 ++ wIA a5 cy 5 w5_311 ++ wIA a6 cy 40 w6_311 ++ wIA a7 cy 40 w7_311 ++ wIA a8 cy 5 w8_311 ++ wIA a9 cy 40 w9_311 ++ wIA a10 cy 40 w10_311 ++ wPF (fun j => x (11 + j)) cy (p_figs P_311)) H → va_D (lwA s) (wSPo x ++ wFig (fun j => x (1 + j)) cy F_311 ++ wFig (fun j => x (6 + j)) cy D_311 ++ wP2 (fun j => x (11 + j)) cy P_311 ++ wIA a5 cy 5 w5_311 ++ wIA a6 cy 40 w6_311 ++ wIA a7 cy 40 w7_311 ++ wIA a8 cy 5 w8_311 ++ wIA a9 cy 40 w9_311 ++ wIA a10 cy 40 w10_311 ++ wPF (fun j => x (11 + j)) cy (p_figs P_311)) → va_S (lwA s) s.heap H locs → lv_has ls 18 [(17, .int l17_311), (16, .int l16_311), (15, .int l15_311), (14, .int l14_311), (13, .int l13_311), (12, .int l12_311), (11, .int l11_311), (9, .int l9_311), (8, .int l8_311), (0, .ref b), (1, .ref (x 0)), (2, .ref a5), (3, .ref a6), (4, .ref a7), (5, .ref a8), (6, .ref a9), (7, .ref a10)] → W p l e room_1 s mm #[Value.ref b] below meth cd H locs (kc + 0) (kz + 0) (lw_Z below #[Value.ref b] s) (F0 mm 311 ls []) := by
          intro n311
          induction n311 with
          | zero => intro F_311 D_311 P_311 w5_311 w6_311 w7_311 w8_311 w9_311 w10_311 l17_311 l16_311 l15_311 l14_311 l13_311 l12_311 l11_311 l9_311 l8_311 H locs ls h; exact absurd h (by simp [G_L_law_L311])
          | succ n311 ih311 =>
            intro F_311 D_311 P_311 w5_311 w6_311 w7_311 w8_311 w9_311 w10_311 l17_311 l16_311 l15_311 l14_311 l13_311 l12_311 l11_311 l9_311 l8_311 H locs ls h hP hD hS hl
            rw [G_L_law_L311] at h
            refine lv_iload hx hb dL_law_311 (lv_at hl 0 rfl) ?_
            refine lv_iload hx hb dL_law_313 (lv_at hl 2 rfl) ?_
            refine lv_iconst (v := 1) hx hb dL_law_315 (by decide) ?_
            refine lv_iadd hx hb dL_law_316 ?_
            have hj355 : ∀ (F_355 : Fig) (D_355 : Fig) (P_355 : PastS) (w5_355 : Nat → Int32) (w6_355 : Nat → Int32) (w7_355 : Nat → Int32) (w8_355 : Nat → Int32) (w9_355 : Nat → Int32) (w10_355 : Nat → Int32) (l16_355 : Int32) (l15_355 : Int32) (l14_355 : Int32) (l13_355 : Int32) (l12_355 : Int32) (l11_355 : Int32) (l9_355 : Int32) (l8_355 : Int32) (H : Heap) (locs : List Loc) (ls : Array Slot), G_L_law_j355 (G_L_law_L69 L xs n69) L xs F_355 D_355 P_355 w5_355 w6_355 w7_355 w8_355 w9_355 w10_355 l16_355 l15_355 l14_355 l13_355 l12_355 l11_355 l9_355 l8_355 = some 1 → va_P (dC, dI) vwCl (wSPo x ++ wFig (fun j => x (1 + j)) cy F_355 ++ wFig (fun j => x (6 + j)) cy D_355 ++ wP2 (fun j => x (11 + j)) cy P_355 ++ wIA a5 cy 5 w5_355 ++ wIA a6 cy 40 w6_355 ++ wIA a7 cy 40 w7_355 ++ wIA a8 cy 5 w8_355 ++ wIA a9 cy 40 w9_355 ++ wIA a10 cy 40 w10_355 ++ wPF (fun j => x (11 + j)) cy (p_figs P_355)) H → va_D (lwA s) (wSPo x ++ wFig (fun j => x (1 + j)) cy F_355 ++ wFig (fun j => x (6 + j)) cy D_355 ++ wP2 (fun j => x (11 + j)) cy P_355 ++ wIA a5 cy 5 w5_355 ++ wIA a6 cy 40 w6_355 ++ wIA a7 cy 40 w7_355 ++ wIA a8 cy 5 w8_355 ++ wIA a9 cy 40 w9_355 ++ wIA a10 cy 40 w10_355 ++ wPF (fun j => x (11 + j)) cy (p_figs P_355)) → va_S (lwA s) s.heap H locs → lv_has ls 18 [(16, .int l16_355), (15, .int l15_355), (14, .int l14_355), (13, .int l13_355), (12, .int l12_355), (11, .int l11_355), (9, .int l9_355), (8, .int l8_355), (0, .ref b), (1, .ref (x 0)), (2, .ref a5), (3, .ref a6), (4, .ref a7), (5, .ref a8), (6, .ref a9), (7, .ref a10)] → W p l e room_1 s mm #[Value.ref b] below meth cd H locs (kc + 0) (kz + 0) (lw_Z below #[Value.ref b] s) (F0 mm 355 ls []) := by
              intro F_355 D_355 P_355 w5_355 w6_355 w7_355 w8_355 w9_355 w10_355 l16_355 l15_355 l14_355 l13_355 l12_355 l11_355 l9_355 l8_355 H locs ls h hP hD hS hl
              unfold G_L_law_j355 at h
              refine lv_iload hx hb dL_law_355 (lv_at hl 0 rfl) ?_
              have hj389 : ∀ (F_389 : Fig) (D_389 : Fig) (P_389 : PastS) (w5_389 : Nat → Int32) (w6_389 : Nat → Int32) (w7_389 : Nat → Int32) (w8_389 : Nat → Int32) (w9_389 : Nat → Int32) (w10_389 : Nat → Int32) (l16_389 : Int32) (l14_389 : Int32) (l13_389 : Int32) (l12_389 : Int32) (l11_389 : Int32) (l9_389 : Int32) (l8_389 : Int32) (H : Heap) (locs : List Loc) (ls : Array Slot), G_L_law_j389 (G_L_law_L69 L xs n69) L xs F_389 D_389 P_389 w5_389 w6_389 w7_389 w8_389 w9_389 w10_389 l16_389 l14_389 l13_389 l12_389 l11_389 l9_389 l8_389 = some 1 → va_P (dC, dI) vwCl (wSPo x ++ wFig (fun j => x (1 + j)) cy F_389 ++ wFig (fun j => x (6 + j)) cy D_389 ++ wP2 (fun j => x (11 + j)) cy P_389 ++ wIA a5 cy 5 w5_389 ++ wIA a6 cy 40 w6_389 ++ wIA a7 cy 40 w7_389 ++ wIA a8 cy 5 w8_389 ++ wIA a9 cy 40 w9_389 ++ wIA a10 cy 40 w10_389 ++ wPF (fun j => x (11 + j)) cy (p_figs P_389)) H → va_D (lwA s) (wSPo x ++ wFig (fun j => x (1 + j)) cy F_389 ++ wFig (fun j => x (6 + j)) cy D_389 ++ wP2 (fun j => x (11 + j)) cy P_389 ++ wIA a5 cy 5 w5_389 ++ wIA a6 cy 40 w6_389 ++ wIA a7 cy 40 w7_389 ++ wIA a8 cy 5 w8_389 ++ wIA a9 cy 40 w9_389 ++ wIA a10 cy 40 w10_389 ++ wPF (fun j => x (11 + j)) cy (p_figs P_389)) → va_S (lwA s) s.heap H locs → lv_has ls 18 [(16, .int l16_389), (14, .int l14_389), (13, .int l13_389), (12, .int l12_389), (11, .int l11_389), (9, .int l9_389), (8, .int l8_389), (0, .ref b), (1, .ref (x 0)), (2, .ref a5), (3, .ref a6), (4, .ref a7), (5, .ref a8), (6, .ref a9), (7, .ref a10)] → W p l e room_1 s mm #[Value.ref b] below meth cd H locs (kc + 0) (kz + 0) (lw_Z below #[Value.ref b] s) (F0 mm 389 ls []) := by
                intro F_389 D_389 P_389 w5_389 w6_389 w7_389 w8_389 w9_389 w10_389 l16_389 l14_389 l13_389 l12_389 l11_389 l9_389 l8_389 H locs ls h hP hD hS hl
                unfold G_L_law_j389 at h
                refine lv_iload hx hb dL_law_389 (lv_at hl 0 rfl) ?_
                obtain ⟨b391, e391, h⟩ := bnd h
                have hr411 : ∀ (H : Heap) (locs : List Loc) (ls : Array Slot), va_P (dC, dI) vwCl (wSPo x ++ wFig (fun j => x (1 + j)) cy F_389 ++ wFig (fun j => x (6 + j)) cy D_389 ++ wP2 (fun j => x (11 + j)) cy P_389 ++ wIA a5 cy 5 w5_389 ++ wIA a6 cy 40 w6_389 ++ wIA a7 cy 40 w7_389 ++ wIA a8 cy 5 w8_389 ++ wIA a9 cy 40 w9_389 ++ wIA a10 cy 40 w10_389 ++ wPF (fun j => x (11 + j)) cy (p_figs P_389)) H → va_D (lwA s) (wSPo x ++ wFig (fun j => x (1 + j)) cy F_389 ++ wFig (fun j => x (6 + j)) cy D_389 ++ wP2 (fun j => x (11 + j)) cy P_389 ++ wIA a5 cy 5 w5_389 ++ wIA a6 cy 40 w6_389 ++ wIA a7 cy 40 w7_389 ++ wIA a8 cy 5 w8_389 ++ wIA a9 cy 40 w9_389 ++ wIA a10 cy 40 w10_389 ++ wPF (fun j => x (11 + j)) cy (p_figs P_389)) → va_S (lwA s) s.heap H locs → lv_has ls 18 [(16, .int l16_389), (14, .int l14_389), (13, .int l13_389), (12, .int l12_389), (11, .int l11_389), (9, .int l9_389), (8, .int l8_389), (0, .ref b), (1, .ref (x 0)), (2, .ref a5), (3, .ref a6), (4, .ref a7), (5, .ref a8), (6, .ref a9), (7, .ref a10)] → W p l e room_1 s mm #[Value.ref b] below meth cd H locs (kc + 0) (kz + 0) (lw_Z below #[Value.ref b] s) (F0 mm 411 ls [.int b391]) := by
                  intro H locs ls hP hD hS hl
                  refine lv_istore (lv' := [(17, .int b391), (16, .int l16_389), (14, .int l14_389), (13, .int l13_389), (12, .int l12_389), (11, .int l11_389), (9, .int l9_389), (8, .int l8_389), (0, .ref b), (1, .ref (x 0)), (2, .ref a5), (3, .ref a6), (4, .ref a7), (5, .ref a8), (6, .ref a9), (7, .ref a10)]) hx hb dL_law_411 hl (by decide) rfl (fun ls hl => ?_)
                  refine lv_aload_n hx hb dL_law_413 rfl (lv_at hl 9 rfl) ?_
                  refine lv_iload hx hb dL_law_414 (lv_at hl 5 rfl) ?_
                  refine lv_iload hx hb dL_law_416 (lv_at hl 4 rfl) ?_
                  refine lv_iload hx hb dL_law_418 (lv_at hl 3 rfl) ?_
                  refine lv_iload hx hb dL_law_420 (lv_at hl 2 rfl) ?_
                  obtain ⟨v422, e422, h⟩ := bnd h
                  refine cLWp (av := [.ref (x 0), .int l11_389, .int l12_389, .int l13_389, .int l14_389]) (rest := []) (st1 := [.int v422.1]) (k1 := kc + 2) (k2 := kz + 12) (wn := wSPo x ++ wFig (fun j => x (1 + j)) cy v422.2.1 ++ wFig (fun j => x (6 + j)) cy v422.2.2.1 ++ wP2 (fun j => x (11 + j)) cy v422.2.2.2 ++ wIA a5 cy 5 w5_389 ++ wIA a6 cy 40 w6_389 ++ wIA a7 cy 40 w7_389 ++ wIA a8 cy 5 w8_389 ++ wIA a9 cy 40 w9_389 ++ wIA a10 cy 40 w10_389 ++ wPF (fun j => x (11 + j)) cy (p_figs v422.2.2.2)) hx hb hml hown htg hN hK hX0 hNC (c_L_insert l dC dI cy hlt x F_389 D_389 P_389 l11_389 l12_389 l13_389 l14_389 v422 e422) ⟨gw385, gw386, gw6, cw_insert⟩ hdS_L_insert rfl ⟨⟨Nat.le_of_ble_eq_true rfl, Nat.le_of_ble_eq_true rfl⟩, (by show kc + 0 + 2 ≤ 600104; omega), (by show kz + 0 + 12 ≤ 7301314; omega)⟩ hP hD hS hA (perm_T (perm_ix 19 [0, 1, 2, 3, 4, 5, 6, 7, 8, 9, 10, 11, 12] [13, 14, 15, 16, 17, 18] rfl rfl rfl (by decide))) (perm_Tb (perm_ix 19 [13, 14, 15, 16, 17, 18] [0, 1, 2, 3, 4, 5, 6, 7, 8, 9, 10, 11, 12] rfl rfl rfl (by decide))) hl.1 rfl (Nat.le_of_ble_eq_true rfl) rfl (by show kc + 0 + 2 = kc + 2; omega) (by show kz + 0 + 12 = kz + 12; omega) dL_law_422 (fun H locs hP hD hS => ?_)
                  refine lv_iload hx hb dL_law_425 (lv_at hl 0 rfl) ?_
                  obtain ⟨b427, e427, h⟩ := bnd h
                  have hr444 : ∀ (H : Heap) (locs : List Loc) (ls : Array Slot), va_P (dC, dI) vwCl (wSPo x ++ wFig (fun j => x (1 + j)) cy v422.2.1 ++ wFig (fun j => x (6 + j)) cy v422.2.2.1 ++ wP2 (fun j => x (11 + j)) cy v422.2.2.2 ++ wIA a5 cy 5 w5_389 ++ wIA a6 cy 40 w6_389 ++ wIA a7 cy 40 w7_389 ++ wIA a8 cy 5 w8_389 ++ wIA a9 cy 40 w9_389 ++ wIA a10 cy 40 w10_389 ++ wPF (fun j => x (11 + j)) cy (p_figs v422.2.2.2)) H → va_D (lwA s) (wSPo x ++ wFig (fun j => x (1 + j)) cy v422.2.1 ++ wFig (fun j => x (6 + j)) cy v422.2.2.1 ++ wP2 (fun j => x (11 + j)) cy v422.2.2.2 ++ wIA a5 cy 5 w5_389 ++ wIA a6 cy 40 w6_389 ++ wIA a7 cy 40 w7_389 ++ wIA a8 cy 5 w8_389 ++ wIA a9 cy 40 w9_389 ++ wIA a10 cy 40 w10_389 ++ wPF (fun j => x (11 + j)) cy (p_figs v422.2.2.2)) → va_S (lwA s) s.heap H locs → lv_has ls 18 [(17, .int b391), (16, .int l16_389), (14, .int l14_389), (13, .int l13_389), (12, .int l12_389), (11, .int l11_389), (9, .int l9_389), (8, .int l8_389), (0, .ref b), (1, .ref (x 0)), (2, .ref a5), (3, .ref a6), (4, .ref a7), (5, .ref a8), (6, .ref a9), (7, .ref a10)] → W p l e room_1 s mm #[Value.ref b] below meth cd H locs (kc + 2) (kz + 12) (lw_Z below #[Value.ref b] s) (F0 mm 444 ls [.int b427, .int v422.1]) := by
                    intro H locs ls hP hD hS hl
                    refine lv_icmp_eq (tgt := 449) hx hb dL_law_444 (by decide) (fun c444 => ?_) (fun c444 => ?_)
                    · replace h := if_t h c444
                      refine lv_iload hx hb dL_law_449 (lv_at hl 0 rfl) ?_
                      have hj467 : ∀ (F_467 : Fig) (D_467 : Fig) (P_467 : PastS) (w5_467 : Nat → Int32) (w6_467 : Nat → Int32) (w7_467 : Nat → Int32) (w8_467 : Nat → Int32) (w9_467 : Nat → Int32) (w10_467 : Nat → Int32) (l9_467 : Int32) (l8_467 : Int32) (H : Heap) (locs : List Loc) (ls : Array Slot), G_L_law_j467 (G_L_law_L69 L xs n69) L xs F_467 D_467 P_467 w5_467 w6_467 w7_467 w8_467 w9_467 w10_467 l9_467 l8_467 = some 1 → va_P (dC, dI) vwCl (wSPo x ++ wFig (fun j => x (1 + j)) cy F_467 ++ wFig (fun j => x (6 + j)) cy D_467 ++ wP2 (fun j => x (11 + j)) cy P_467 ++ wIA a5 cy 5 w5_467 ++ wIA a6 cy 40 w6_467 ++ wIA a7 cy 40 w7_467 ++ wIA a8 cy 5 w8_467 ++ wIA a9 cy 40 w9_467 ++ wIA a10 cy 40 w10_467 ++ wPF (fun j => x (11 + j)) cy (p_figs P_467)) H → va_D (lwA s) (wSPo x ++ wFig (fun j => x (1 + j)) cy F_467 ++ wFig (fun j => x (6 + j)) cy D_467 ++ wP2 (fun j => x (11 + j)) cy P_467 ++ wIA a5 cy 5 w5_467 ++ wIA a6 cy 40 w6_467 ++ wIA a7 cy 40 w7_467 ++ wIA a8 cy 5 w8_467 ++ wIA a9 cy 40 w9_467 ++ wIA a10 cy 40 w10_467 ++ wPF (fun j => x (11 + j)) cy (p_figs P_467)) → va_S (lwA s) s.heap H locs → lv_has ls 18 [(9, .int l9_467), (8, .int l8_467), (0, .ref b), (1, .ref (x 0)), (2, .ref a5), (3, .ref a6), (4, .ref a7), (5, .ref a8), (6, .ref a9), (7, .ref a10)] → W p l e room_1 s mm #[Value.ref b] below meth cd H locs (kc + 2) (kz + 12) (lw_Z below #[Value.ref b] s) (F0 mm 467 ls []) := by
                        intro F_467 D_467 P_467 w5_467 w6_467 w7_467 w8_467 w9_467 w10_467 l9_467 l8_467 H locs ls h hP hD hS hl
                        unfold G_L_law_j467 at h
                        refine lv_goto (tgt := 805) hx hb dL_law_467 (by decide) ?_
                        refine W.widen (k := kc + 3) (n := kz + 18) (by omega) (by omega) ?_
                        exact hj805 F_467 D_467 P_467 w5_467 w6_467 w7_467 w8_467 w9_467 w10_467 l9_467 l8_467 H locs ls h hP hD hS (lv_sub hl [0, 1, 2, 3, 4, 5, 6, 7, 8, 9] rfl)
                      refine lv_if_eq (tgt := 467) hx hb dL_law_451 (by decide) (fun c451 => ?_) (fun c451 => ?_)
                      · replace h := if_t h c451
                        exact hj467 v422.2.1 v422.2.2.1 v422.2.2.2 w5_389 w6_389 w7_389 w8_389 w9_389 w10_389 l9_389 l8_389 H locs ls h hP hD hS (lv_sub hl [6, 7, 8, 9, 10, 11, 12, 13, 14, 15] rfl)
                      replace h := if_f h c451
                      refine lv_aload hx hb dL_law_454 (lv_at hl 13 rfl) ?_
                      refine lv_aload hx hb dL_law_456 (lv_at hl 14 rfl) ?_
                      refine lv_aload hx hb dL_law_458 (lv_at hl 15 rfl) ?_
                      refine lv_aload_n hx hb dL_law_460 rfl (lv_at hl 10 rfl) ?_
                      refine lv_aload_n hx hb dL_law_461 rfl (lv_at hl 11 rfl) ?_
                      refine lv_aload hx hb dL_law_462 (lv_at hl 12 rfl) ?_
                      obtain ⟨v464, e464, h⟩ := bnd h
                      refine cSp (av := [.ref a8, .ref a9, .ref a10, .ref a5, .ref a6, .ref a7]) (rest := []) (st1 := []) (k1 := kc + 2) (k2 := kz + 12) (wn := wSPo x ++ wFig (fun j => x (1 + j)) cy v422.2.1 ++ wFig (fun j => x (6 + j)) cy v422.2.2.1 ++ wP2 (fun j => x (11 + j)) cy v422.2.2.2 ++ wIA a5 cy 5 v464.1 ++ wIA a6 cy 40 v464.2.1 ++ wIA a7 cy 40 v464.2.2 ++ wIA a8 cy 5 w8_389 ++ wIA a9 cy 40 w9_389 ++ wIA a10 cy 40 w10_389 ++ wPF (fun j => x (11 + j)) cy (p_figs v422.2.2.2)) hx hb hml hown htg hN hK (c_L_copy l dC dI cy a8 a9 a10 a5 a6 a7 5 40 40 5 40 40 w8_389 w9_389 w10_389 w5_389 w6_389 w7_389  v464 e464) (g_S gw603 gw604 gw6 gw605) hdS_L_copy rfl ⟨⟨Nat.le_of_ble_eq_true rfl, Nat.le_of_ble_eq_true rfl⟩, (by show kc + 2 + 0 ≤ 600104; omega), (by show kz + 12 + 0 ≤ 7301314; omega)⟩ hP hD hS hA (perm_N (perm_ix 19 [16, 17, 18, 13, 14, 15] [0, 1, 2, 3, 4, 5, 6, 7, 8, 9, 10, 11, 12] rfl rfl rfl (by decide))) (perm_Nb (perm_ix 19 [0, 1, 2, 3, 4, 5, 6, 7, 8, 9, 10, 11, 12] [16, 17, 18, 13, 14, 15] rfl rfl rfl (by decide))) hl.1 rfl (Nat.le_of_ble_eq_true rfl) rfl (by show kc + 2 + 0 = kc + 2; omega) (by show kz + 12 + 0 = kz + 12; omega) dL_law_464 (fun H locs hP hD hS => ?_)
                      exact hj467 v422.2.1 v422.2.2.1 v422.2.2.2 v464.1 v464.2.1 v464.2.2 w8_389 w9_389 w10_389 l9_389 l8_389 H locs ls h hP hD hS (lv_sub hl [6, 7, 8, 9, 10, 11, 12, 13, 14, 15] rfl)
                    replace h := if_f h c444
                    refine lv_iconst (v := 0) hx hb dL_law_447 (by decide) ?_
                    exact absurd (Option.some.inj h) (by decide)
                  have h := e427
                  clear e427
                  refine lv_if_eq (tgt := 442) hx hb dL_law_427 (by decide) (fun c427 => ?_) (fun c427 => ?_)
                  · replace h := if_t h c427
                    refine lv_bipush (v := (-2)) hx hb dL_law_442 (by decide) ?_
                    obtain rfl := Option.some.inj h
                    exact hr444 H locs ls hP hD hS hl
                  replace h := if_f h c427
                  refine lv_aload hx hb dL_law_430 (lv_at hl 13 rfl) ?_
                  refine lv_aload hx hb dL_law_432 (lv_at hl 14 rfl) ?_
                  refine lv_aload hx hb dL_law_434 (lv_at hl 15 rfl) ?_
                  obtain ⟨v436, e436, h⟩ := bnd h
                  refine cSp (av := [.ref a8, .ref a9, .ref a10]) (rest := [.int v422.1]) (st1 := [.int v436, .int v422.1]) (k1 := kc + 2) (k2 := kz + 12) (wn := wSPo x ++ wFig (fun j => x (1 + j)) cy v422.2.1 ++ wFig (fun j => x (6 + j)) cy v422.2.2.1 ++ wP2 (fun j => x (11 + j)) cy v422.2.2.2 ++ wIA a5 cy 5 w5_389 ++ wIA a6 cy 40 w6_389 ++ wIA a7 cy 40 w7_389 ++ wIA a8 cy 5 w8_389 ++ wIA a9 cy 40 w9_389 ++ wIA a10 cy 40 w10_389 ++ wPF (fun j => x (11 + j)) cy (p_figs v422.2.2.2)) hx hb hml hown htg hN hK (c_L_area l dC dI cy a8 a9 a10 5 40 40 w8_389 w9_389 w10_389  v436 e436) (g_S gw471 gw472 gw6 gw473) hdS_L_area rfl ⟨⟨Nat.le_of_ble_eq_true rfl, Nat.le_of_ble_eq_true rfl⟩, (by show kc + 2 + 0 ≤ 600104; omega), (by show kz + 12 + 0 ≤ 7301314; omega)⟩ hP hD hS hA (perm_N (perm_ix 19 [16, 17, 18] [0, 1, 2, 3, 4, 5, 6, 7, 8, 9, 10, 11, 12, 13, 14, 15] rfl rfl rfl (by decide))) (perm_Nb (perm_ix 19 [0, 1, 2, 3, 4, 5, 6, 7, 8, 9, 10, 11, 12, 13, 14, 15] [16, 17, 18] rfl rfl rfl (by decide))) hl.1 rfl (Nat.le_of_ble_eq_true rfl) rfl (by show kc + 2 + 0 = kc + 2; omega) (by show kz + 12 + 0 = kz + 12; omega) dL_law_436 (fun H locs hP hD hS => ?_)
                  refine lv_goto (tgt := 444) hx hb dL_law_439 (by decide) ?_
                  obtain rfl := Option.some.inj h
                  exact hr444 H locs ls hP hD hS hl
                have h := e391
                clear e391
                refine lv_if_ne (tgt := 410) hx hb dL_law_391 (by decide) (fun c391 => ?_) (fun c391 => ?_)
                · replace h := if_f h c391
                  refine lv_iconst (v := 0) hx hb dL_law_410 (by decide) ?_
                  obtain rfl := Option.some.inj h
                  exact hr411 H locs ls hP hD hS hl
                replace h := if_t h c391
                refine lv_aload hx hb dL_law_394 (lv_at hl 12 rfl) ?_
                refine lv_aload hx hb dL_law_396 (lv_at hl 13 rfl) ?_
                refine lv_aload hx hb dL_law_398 (lv_at hl 14 rfl) ?_
                obtain ⟨v400, e400, h⟩ := bnd h
                refine cSp (av := [.ref a8, .ref a9, .ref a10]) (rest := []) (st1 := [.int v400]) (k1 := kc + 0) (k2 := kz + 0) (wn := wSPo x ++ wFig (fun j => x (1 + j)) cy F_389 ++ wFig (fun j => x (6 + j)) cy D_389 ++ wP2 (fun j => x (11 + j)) cy P_389 ++ wIA a5 cy 5 w5_389 ++ wIA a6 cy 40 w6_389 ++ wIA a7 cy 40 w7_389 ++ wIA a8 cy 5 w8_389 ++ wIA a9 cy 40 w9_389 ++ wIA a10 cy 40 w10_389 ++ wPF (fun j => x (11 + j)) cy (p_figs P_389)) hx hb hml hown htg hN hK (c_L_broken l dC dI cy a8 a9 a10 5 40 40 w8_389 w9_389 w10_389  v400 e400) (g_S gw450 gw451 gw6 gw452) hdS_L_broken rfl ⟨⟨Nat.le_of_ble_eq_true rfl, Nat.le_of_ble_eq_true rfl⟩, (by show kc + 0 + 0 ≤ 600104; omega), (by show kz + 0 + 0 ≤ 7301314; omega)⟩ hP hD hS hA (perm_N (perm_ix 19 [16, 17, 18] [0, 1, 2, 3, 4, 5, 6, 7, 8, 9, 10, 11, 12, 13, 14, 15] rfl rfl rfl (by decide))) (perm_Nb (perm_ix 19 [0, 1, 2, 3, 4, 5, 6, 7, 8, 9, 10, 11, 12, 13, 14, 15] [16, 17, 18] rfl rfl rfl (by decide))) hl.1 rfl (Nat.le_of_ble_eq_true rfl) rfl (by show kc + 0 + 0 = kc + 0; omega) (by show kz + 0 + 0 = kz + 0; omega) dL_law_400 (fun H locs hP hD hS => ?_)
                refine lv_if_ne (tgt := 410) hx hb dL_law_403 (by decide) (fun c403 => ?_) (fun c403 => ?_)
                · replace h := if_f h c403
                  refine lv_iconst (v := 0) hx hb dL_law_410 (by decide) ?_
                  obtain rfl := Option.some.inj h
                  exact hr411 H locs ls hP hD hS hl
                replace h := if_t h c403
                refine lv_iconst (v := 1) hx hb dL_law_406 (by decide) ?_
                refine lv_goto (tgt := 411) hx hb dL_law_407 (by decide) ?_
                obtain rfl := Option.some.inj h
                exact hr411 H locs ls hP hD hS hl
              refine lv_if_ne (tgt := 389) hx hb dL_law_357 (by decide) (fun c357 => ?_) (fun c357 => ?_)
              · replace h := if_f h c357
                exact hj389 F_355 D_355 P_355 w5_355 w6_355 w7_355 w8_355 w9_355 w10_355 l16_355 l14_355 l13_355 l12_355 l11_355 l9_355 l8_355 H locs ls h hP hD hS (lv_sub hl [0, 2, 3, 4, 5, 6, 7, 8, 9, 10, 11, 12, 13, 14, 15] rfl)
              replace h := if_t h c357
              refine lv_aload hx hb dL_law_360 (lv_at hl 14 rfl) ?_
              refine lv_iload hx hb dL_law_362 (lv_at hl 1 rfl) ?_
              refine lv_iconst (v := 1) hx hb dL_law_364 (by decide) ?_
              refine lv_iadd hx hb dL_law_365 ?_
              refine lv_iload hx hb dL_law_366 (lv_at hl 3 rfl) ?_
              obtain ⟨g368, e368, h⟩ := bnd h
              refine x_iast (g := g368) hx hb hK hP hD hS 17 0 rfl rfl e368 dL_law_368 (fun H locs hP hD hS => ?_)
              have hP : va_P (dC, dI) vwCl (wSPo x ++ wFig (fun j => x (1 + j)) cy F_355 ++ wFig (fun j => x (6 + j)) cy D_355 ++ wP2 (fun j => x (11 + j)) cy P_355 ++ wIA a5 cy 5 w5_355 ++ wIA a6 cy 40 w6_355 ++ wIA a7 cy 40 w7_355 ++ wIA a8 cy 5 w8_355 ++ wIA a9 cy 40 g368 ++ wIA a10 cy 40 w10_355 ++ wPF (fun j => x (11 + j)) cy (p_figs P_355)) H := hP
              have hD : va_D (lwA s) (wSPo x ++ wFig (fun j => x (1 + j)) cy F_355 ++ wFig (fun j => x (6 + j)) cy D_355 ++ wP2 (fun j => x (11 + j)) cy P_355 ++ wIA a5 cy 5 w5_355 ++ wIA a6 cy 40 w6_355 ++ wIA a7 cy 40 w7_355 ++ wIA a8 cy 5 w8_355 ++ wIA a9 cy 40 g368 ++ wIA a10 cy 40 w10_355 ++ wPF (fun j => x (11 + j)) cy (p_figs P_355)) := hD
              refine lv_aload hx hb dL_law_369 (lv_at hl 15 rfl) ?_
              refine lv_iload hx hb dL_law_371 (lv_at hl 1 rfl) ?_
              refine lv_iconst (v := 1) hx hb dL_law_373 (by decide) ?_
              refine lv_iadd hx hb dL_law_374 ?_
              refine lv_iload hx hb dL_law_375 (lv_at hl 2 rfl) ?_
              obtain ⟨g377, e377, h⟩ := bnd h
              refine x_iast (g := g377) hx hb hK hP hD hS 18 0 rfl rfl e377 dL_law_377 (fun H locs hP hD hS => ?_)
              have hP : va_P (dC, dI) vwCl (wSPo x ++ wFig (fun j => x (1 + j)) cy F_355 ++ wFig (fun j => x (6 + j)) cy D_355 ++ wP2 (fun j => x (11 + j)) cy P_355 ++ wIA a5 cy 5 w5_355 ++ wIA a6 cy 40 w6_355 ++ wIA a7 cy 40 w7_355 ++ wIA a8 cy 5 w8_355 ++ wIA a9 cy 40 g368 ++ wIA a10 cy 40 g377 ++ wPF (fun j => x (11 + j)) cy (p_figs P_355)) H := hP
              have hD : va_D (lwA s) (wSPo x ++ wFig (fun j => x (1 + j)) cy F_355 ++ wFig (fun j => x (6 + j)) cy D_355 ++ wP2 (fun j => x (11 + j)) cy P_355 ++ wIA a5 cy 5 w5_355 ++ wIA a6 cy 40 w6_355 ++ wIA a7 cy 40 w7_355 ++ wIA a8 cy 5 w8_355 ++ wIA a9 cy 40 g368 ++ wIA a10 cy 40 g377 ++ wPF (fun j => x (11 + j)) cy (p_figs P_355)) := hD
              refine lv_aload hx hb dL_law_378 (lv_at hl 13 rfl) ?_
              refine lv_iconst (v := 1) hx hb dL_law_380 (by decide) ?_
              refine lv_iload hx hb dL_law_381 (lv_at hl 5 rfl) ?_
              refine lv_iadd hx hb dL_law_383 ?_
              refine lv_dup2_11 hx hb dL_law_384 rfl rfl ?_
              obtain ⟨v385, e385, h⟩ := bnd h
              refine x_iald (v := v385) hx hb hK hP 16 0 rfl rfl e385 dL_law_385 ?_
              refine lv_iconst (v := 1) hx hb dL_law_386 (by decide) ?_
              refine lv_iadd hx hb dL_law_387 ?_
              obtain ⟨g388, e388, h⟩ := bnd h
              refine x_iast (g := g388) hx hb hK hP hD hS 16 0 rfl rfl e388 dL_law_388 (fun H locs hP hD hS => ?_)
              have hP : va_P (dC, dI) vwCl (wSPo x ++ wFig (fun j => x (1 + j)) cy F_355 ++ wFig (fun j => x (6 + j)) cy D_355 ++ wP2 (fun j => x (11 + j)) cy P_355 ++ wIA a5 cy 5 w5_355 ++ wIA a6 cy 40 w6_355 ++ wIA a7 cy 40 w7_355 ++ wIA a8 cy 5 g388 ++ wIA a9 cy 40 g368 ++ wIA a10 cy 40 g377 ++ wPF (fun j => x (11 + j)) cy (p_figs P_355)) H := hP
              have hD : va_D (lwA s) (wSPo x ++ wFig (fun j => x (1 + j)) cy F_355 ++ wFig (fun j => x (6 + j)) cy D_355 ++ wP2 (fun j => x (11 + j)) cy P_355 ++ wIA a5 cy 5 w5_355 ++ wIA a6 cy 40 w6_355 ++ wIA a7 cy 40 w7_355 ++ wIA a8 cy 5 g388 ++ wIA a9 cy 40 g368 ++ wIA a10 cy 40 g377 ++ wPF (fun j => x (11 + j)) cy (p_figs P_355)) := hD
              exact hj389 F_355 D_355 P_355 w5_355 w6_355 w7_355 g388 g368 g377 l16_355 l14_355 l13_355 l12_355 l11_355 l9_355 l8_355 H locs ls h hP hD hS (lv_sub hl [0, 2, 3, 4, 5, 6, 7, 8, 9, 10, 11, 12, 13, 14, 15] rfl)
            refine lv_icmp_le (tgt := 355) hx hb dL_law_317 (by decide) (fun c317 => ?_) (fun c317 => ?_)
            · replace h := if_t h c317
              exact hj355 F_311 D_311 P_311 w5_311 w6_311 w7_311 w8_311 w9_311 w10_311 l16_311 l15_311 l14_311 l13_311 l12_311 l11_311 l9_311 l8_311 H locs ls h hP hD hS (lv_sub hl [1, 2, 3, 4, 5, 6, 7, 8, 9, 10, 11, 12, 13, 14, 15, 16] rfl)
            replace h := if_f h c317
            refine lv_iload hx hb dL_law_320 (lv_at hl 1 rfl) ?_
            refine lv_if_ne (tgt := 355) hx hb dL_law_322 (by decide) (fun c322 => ?_) (fun c322 => ?_)
            · replace h := if_f h c322
              exact hj355 F_311 D_311 P_311 w5_311 w6_311 w7_311 w8_311 w9_311 w10_311 l16_311 l15_311 l14_311 l13_311 l12_311 l11_311 l9_311 l8_311 H locs ls h hP hD hS (lv_sub hl [1, 2, 3, 4, 5, 6, 7, 8, 9, 10, 11, 12, 13, 14, 15, 16] rfl)
            replace h := if_t h c322
            refine lv_aload hx hb dL_law_325 (lv_at hl 15 rfl) ?_
            refine lv_iload hx hb dL_law_327 (lv_at hl 0 rfl) ?_
            refine lv_aload hx hb dL_law_329 (lv_at hl 15 rfl) ?_
            refine lv_iload hx hb dL_law_331 (lv_at hl 0 rfl) ?_
            refine lv_iconst (v := 1) hx hb dL_law_333 (by decide) ?_
            refine lv_isub hx hb dL_law_334 ?_
            obtain ⟨v335, e335, h⟩ := bnd h
            refine x_iald (v := v335) hx hb hK hP 17 0 rfl rfl e335 dL_law_335 ?_
            obtain ⟨g336, e336, h⟩ := bnd h
            refine x_iast (g := g336) hx hb hK hP hD hS 17 0 rfl rfl e336 dL_law_336 (fun H locs hP hD hS => ?_)
            have hP : va_P (dC, dI) vwCl (wSPo x ++ wFig (fun j => x (1 + j)) cy F_311 ++ wFig (fun j => x (6 + j)) cy D_311 ++ wP2 (fun j => x (11 + j)) cy P_311 ++ wIA a5 cy 5 w5_311 ++ wIA a6 cy 40 w6_311 ++ wIA a7 cy 40 w7_311 ++ wIA a8 cy 5 w8_311 ++ wIA a9 cy 40 g336 ++ wIA a10 cy 40 w10_311 ++ wPF (fun j => x (11 + j)) cy (p_figs P_311)) H := hP
            have hD : va_D (lwA s) (wSPo x ++ wFig (fun j => x (1 + j)) cy F_311 ++ wFig (fun j => x (6 + j)) cy D_311 ++ wP2 (fun j => x (11 + j)) cy P_311 ++ wIA a5 cy 5 w5_311 ++ wIA a6 cy 40 w6_311 ++ wIA a7 cy 40 w7_311 ++ wIA a8 cy 5 w8_311 ++ wIA a9 cy 40 g336 ++ wIA a10 cy 40 w10_311 ++ wPF (fun j => x (11 + j)) cy (p_figs P_311)) := hD
            refine lv_aload hx hb dL_law_337 (lv_at hl 16 rfl) ?_
            refine lv_iload hx hb dL_law_339 (lv_at hl 0 rfl) ?_
            refine lv_aload hx hb dL_law_341 (lv_at hl 16 rfl) ?_
            refine lv_iload hx hb dL_law_343 (lv_at hl 0 rfl) ?_
            refine lv_iconst (v := 1) hx hb dL_law_345 (by decide) ?_
            refine lv_isub hx hb dL_law_346 ?_
            obtain ⟨v347, e347, h⟩ := bnd h
            refine x_iald (v := v347) hx hb hK hP 18 0 rfl rfl e347 dL_law_347 ?_
            obtain ⟨g348, e348, h⟩ := bnd h
            refine x_iast (g := g348) hx hb hK hP hD hS 18 0 rfl rfl e348 dL_law_348 (fun H locs hP hD hS => ?_)
            have hP : va_P (dC, dI) vwCl (wSPo x ++ wFig (fun j => x (1 + j)) cy F_311 ++ wFig (fun j => x (6 + j)) cy D_311 ++ wP2 (fun j => x (11 + j)) cy P_311 ++ wIA a5 cy 5 w5_311 ++ wIA a6 cy 40 w6_311 ++ wIA a7 cy 40 w7_311 ++ wIA a8 cy 5 w8_311 ++ wIA a9 cy 40 g336 ++ wIA a10 cy 40 g348 ++ wPF (fun j => x (11 + j)) cy (p_figs P_311)) H := hP
            have hD : va_D (lwA s) (wSPo x ++ wFig (fun j => x (1 + j)) cy F_311 ++ wFig (fun j => x (6 + j)) cy D_311 ++ wP2 (fun j => x (11 + j)) cy P_311 ++ wIA a5 cy 5 w5_311 ++ wIA a6 cy 40 w6_311 ++ wIA a7 cy 40 w7_311 ++ wIA a8 cy 5 w8_311 ++ wIA a9 cy 40 g336 ++ wIA a10 cy 40 g348 ++ wPF (fun j => x (11 + j)) cy (p_figs P_311)) := hD
            refine lv_iinc (v := l17_311 + (-1)) (lv' := [(17, .int (l17_311 + (-1))), (16, .int l16_311), (15, .int l15_311), (14, .int l14_311), (13, .int l13_311), (12, .int l12_311), (11, .int l11_311), (9, .int l9_311), (8, .int l8_311), (0, .ref b), (1, .ref (x 0)), (2, .ref a5), (3, .ref a6), (4, .ref a7), (5, .ref a8), (6, .ref a9), (7, .ref a10)]) hx hb dL_law_349 hl (k := 0) rfl rfl (by decide) rfl (fun ls hl => ?_)
            refine lv_goto (tgt := 311) hx hb dL_law_352 (by decide) ?_
            exact ih311 F_311 D_311 P_311 w5_311 w6_311 w7_311 w8_311 g336 g348 (l17_311 + (-1)) l16_311 l15_311 l14_311 l13_311 l12_311 l11_311 l9_311 l8_311 H locs ls h hP hD hS (lv_sub hl [0, 1, 2, 3, 4, 5, 6, 7, 8, 9, 10, 11, 12, 13, 14, 15, 16] rfl)
        exact hL311 FU F D P w5 w6 w7 v164.1 v164.2.1 v164.2.2 ((10 * v100) + v307) b287 ((10 * v100) + v115) v139 v127 v115 v100 v79 l8_69 H locs ls h hP hD hS (lv_sub hl [0, 1, 2, 3, 4, 5, 6, 8, 9, 10, 11, 12, 13, 14, 15, 16, 17] rfl)
      have h := e287
      clear e287
      refine lv_icmp_ne (tgt := 294) hx hb dL_law_287 (by decide) (fun c287 => ?_) (fun c287 => ?_)
      · replace h := if_f h c287
        refine lv_iconst (v := 0) hx hb dL_law_294 (by decide) ?_
        obtain rfl := Option.some.inj h
        exact hr295 H locs ls hP hD hS hl
      replace h := if_t h c287
      refine lv_iconst (v := 1) hx hb dL_law_290 (by decide) ?_
      refine lv_goto (tgt := 295) hx hb dL_law_291 (by decide) ?_
      obtain rfl := Option.some.inj h
      exact hr295 H locs ls hP hD hS hl
    replace h := if_f h c170
    refine lv_aload hx hb dL_law_173 (lv_at hl 14 rfl) ?_
    refine lv_iload hx hb dL_law_175 (lv_at hl 0 rfl) ?_
    refine lv_iload hx hb dL_law_177 (lv_at hl 2 rfl) ?_
    obtain ⟨g179, e179, h⟩ := bnd h
    refine x_iast (g := g179) hx hb hK hP hD hS 17 0 rfl rfl e179 dL_law_179 (fun H locs hP hD hS => ?_)
    have hP : va_P (dC, dI) vwCl (wSPo x ++ wFig (fun j => x (1 + j)) cy F ++ wFig (fun j => x (6 + j)) cy D ++ wP2 (fun j => x (11 + j)) cy P ++ wIA a5 cy 5 w5 ++ wIA a6 cy 40 w6 ++ wIA a7 cy 40 w7 ++ wIA a8 cy 5 v164.1 ++ wIA a9 cy 40 g179 ++ wIA a10 cy 40 v164.2.2 ++ wPF (fun j => x (11 + j)) cy (p_figs P)) H := hP
    have hD : va_D (lwA s) (wSPo x ++ wFig (fun j => x (1 + j)) cy F ++ wFig (fun j => x (6 + j)) cy D ++ wP2 (fun j => x (11 + j)) cy P ++ wIA a5 cy 5 w5 ++ wIA a6 cy 40 w6 ++ wIA a7 cy 40 w7 ++ wIA a8 cy 5 v164.1 ++ wIA a9 cy 40 g179 ++ wIA a10 cy 40 v164.2.2 ++ wPF (fun j => x (11 + j)) cy (p_figs P)) := hD
    refine lv_aload hx hb dL_law_180 (lv_at hl 15 rfl) ?_
    refine lv_iload hx hb dL_law_182 (lv_at hl 0 rfl) ?_
    refine lv_iload hx hb dL_law_184 (lv_at hl 1 rfl) ?_
    obtain ⟨g186, e186, h⟩ := bnd h
    refine x_iast (g := g186) hx hb hK hP hD hS 18 0 rfl rfl e186 dL_law_186 (fun H locs hP hD hS => ?_)
    have hP : va_P (dC, dI) vwCl (wSPo x ++ wFig (fun j => x (1 + j)) cy F ++ wFig (fun j => x (6 + j)) cy D ++ wP2 (fun j => x (11 + j)) cy P ++ wIA a5 cy 5 w5 ++ wIA a6 cy 40 w6 ++ wIA a7 cy 40 w7 ++ wIA a8 cy 5 v164.1 ++ wIA a9 cy 40 g179 ++ wIA a10 cy 40 g186 ++ wPF (fun j => x (11 + j)) cy (p_figs P)) H := hP
    have hD : va_D (lwA s) (wSPo x ++ wFig (fun j => x (1 + j)) cy F ++ wFig (fun j => x (6 + j)) cy D ++ wP2 (fun j => x (11 + j)) cy P ++ wIA a5 cy 5 w5 ++ wIA a6 cy 40 w6 ++ wIA a7 cy 40 w7 ++ wIA a8 cy 5 v164.1 ++ wIA a9 cy 40 g179 ++ wIA a10 cy 40 g186 ++ wPF (fun j => x (11 + j)) cy (p_figs P)) := hD
    refine lv_aload hx hb dL_law_187 (lv_at hl 13 rfl) ?_
    refine lv_aload hx hb dL_law_189 (lv_at hl 14 rfl) ?_
    refine lv_aload hx hb dL_law_191 (lv_at hl 15 rfl) ?_
    obtain ⟨v193, e193, h⟩ := bnd h
    refine cSp (av := [.ref a8, .ref a9, .ref a10]) (rest := []) (st1 := [.int v193]) (k1 := kc + 0) (k2 := kz + 0) (wn := wSPo x ++ wFig (fun j => x (1 + j)) cy F ++ wFig (fun j => x (6 + j)) cy D ++ wP2 (fun j => x (11 + j)) cy P ++ wIA a5 cy 5 w5 ++ wIA a6 cy 40 w6 ++ wIA a7 cy 40 w7 ++ wIA a8 cy 5 v164.1 ++ wIA a9 cy 40 g179 ++ wIA a10 cy 40 g186 ++ wPF (fun j => x (11 + j)) cy (p_figs P)) hx hb hml hown htg hN hK (c_L_broken l dC dI cy a8 a9 a10 5 40 40 v164.1 g179 g186  v193 e193) (g_S gw450 gw451 gw6 gw452) hdS_L_broken rfl ⟨⟨Nat.le_of_ble_eq_true rfl, Nat.le_of_ble_eq_true rfl⟩, (by show kc + 0 + 0 ≤ 600104; omega), (by show kz + 0 + 0 ≤ 7301314; omega)⟩ hP hD hS hA (perm_N (perm_ix 19 [16, 17, 18] [0, 1, 2, 3, 4, 5, 6, 7, 8, 9, 10, 11, 12, 13, 14, 15] rfl rfl rfl (by decide))) (perm_Nb (perm_ix 19 [0, 1, 2, 3, 4, 5, 6, 7, 8, 9, 10, 11, 12, 13, 14, 15] [16, 17, 18] rfl rfl rfl (by decide))) hl.1 rfl (Nat.le_of_ble_eq_true rfl) rfl (by show kc + 0 + 0 = kc + 0; omega) (by show kz + 0 + 0 = kz + 0; omega) dL_law_193 (fun H locs hP hD hS => ?_)
    refine lv_istore (lv' := [(16, .int v193), (15, .int ((10 * v100) + v115)), (14, .int v139), (13, .int v127), (12, .int v115), (11, .int v100), (10, .int v88), (9, .int v79), (8, .int l8_69), (0, .ref b), (1, .ref (x 0)), (2, .ref a5), (3, .ref a6), (4, .ref a7), (5, .ref a8), (6, .ref a9), (7, .ref a10)]) hx hb dL_law_196 hl (by decide) rfl (fun ls hl => ?_)
    refine lv_aload_n hx hb dL_law_198 rfl (lv_at hl 10 rfl) ?_
    refine lv_iload hx hb dL_law_199 (lv_at hl 5 rfl) ?_
    refine lv_iload hx hb dL_law_201 (lv_at hl 4 rfl) ?_
    refine lv_iload hx hb dL_law_203 (lv_at hl 3 rfl) ?_
    refine lv_iload hx hb dL_law_205 (lv_at hl 2 rfl) ?_
    obtain ⟨v207, e207, h⟩ := bnd h
    rcases hv207 : v207.1 with k207 | u207
    · simp only [hv207] at h
      cases h
    simp only [hv207] at h
    refine cXVp (av := [.int v100, .int v115, .int v127, .int v139]) (rest := []) (k1 := kc + 1) (k2 := kz + 6) (wn := wSPo x ++ wFig (fun j => x (1 + j)) cy F ++ wFig (fun j => x (6 + j)) cy v207.2 ++ wP2 (fun j => x (11 + j)) cy P ++ wIA a5 cy 5 w5 ++ wIA a6 cy 40 w6 ++ wIA a7 cy 40 w7 ++ wIA a8 cy 5 v164.1 ++ wIA a9 cy 40 g179 ++ wIA a10 cy 40 g186 ++ wPF (fun j => x (11 + j)) cy (p_figs P)) (ci := 3) (q0 := 0) hx hb hml hown htg hN hK hX0 (c_X8_whyNot l dC dI cy hlt x F D v100 v115 v127 v139 v207 e207) (g_V gw155 gw156 gw157 gw7 gw158) hdV_X8_whyNot rfl ⟨⟨Nat.le_of_ble_eq_true rfl, Nat.le_of_ble_eq_true rfl⟩, (by show kc + 0 + 1 ≤ 600104; omega), (by show kz + 0 + 6 ≤ 7301314; omega)⟩ hP hD hS hA ⟨rfl, rfl⟩ rfl (perm_N (perm_ix 19 [0, 1, 2, 3, 4, 5, 6, 7, 8, 9, 10] [11, 12, 13, 14, 15, 16, 17, 18] rfl rfl rfl (by decide))) (perm_Nb (perm_ix 19 [11, 12, 13, 14, 15, 16, 17, 18] [0, 1, 2, 3, 4, 5, 6, 7, 8, 9, 10] rfl rfl rfl (by decide))) hl.1 rfl (Nat.le_of_ble_eq_true rfl) (by show kc + 0 + 1 = kc + 1; omega) (by show kz + 0 + 6 = kz + 6; omega) dL_law_207 (fun H locs ret ho hP hD hS => ?_) (fun H locs k q ce ho hP hD hS h1 h2 h3 => ?_)
    rotate_left
    · rw [hv207] at ho; cases ho
    rw [hv207] at ho
    obtain rfl := Sum.inr.inj ho
    refine W.eq (g2 := F0 mm 210 ls [.int u207]) rfl ?_
    refine lv_iload hx hb dL_law_210 (lv_at hl 0 rfl) ?_
    refine lv_icmp_ne (tgt := 249) hx hb dL_law_212 (by decide) (fun c212 => ?_) (fun c212 => ?_)
    · replace h := if_f h c212
      refine lv_iconst (v := 0) hx hb dL_law_249 (by decide) ?_
      exact absurd (Option.some.inj h) (by decide)
    replace h := if_t h c212
    refine lv_aload_n hx hb dL_law_215 rfl (lv_at hl 10 rfl) ?_
    refine lv_iload hx hb dL_law_216 (lv_at hl 5 rfl) ?_
    refine lv_iload hx hb dL_law_218 (lv_at hl 4 rfl) ?_
    refine lv_iload hx hb dL_law_220 (lv_at hl 3 rfl) ?_
    refine lv_iload hx hb dL_law_222 (lv_at hl 2 rfl) ?_
    obtain ⟨v224, e224, h⟩ := bnd h
    refine cLWp (av := [.ref (x 0), .int v100, .int v115, .int v127, .int v139]) (rest := []) (st1 := [.int v224.1]) (k1 := kc + 3) (k2 := kz + 18) (wn := wSPo x ++ wFig (fun j => x (1 + j)) cy v224.2.1 ++ wFig (fun j => x (6 + j)) cy v224.2.2.1 ++ wP2 (fun j => x (11 + j)) cy v224.2.2.2 ++ wIA a5 cy 5 w5 ++ wIA a6 cy 40 w6 ++ wIA a7 cy 40 w7 ++ wIA a8 cy 5 v164.1 ++ wIA a9 cy 40 g179 ++ wIA a10 cy 40 g186 ++ wPF (fun j => x (11 + j)) cy (p_figs v224.2.2.2)) hx hb hml hown htg hN hK hX0 hNC (c_L_move l dC dI cy hlt x F v207.2 P v100 v115 v127 v139 v224 e224) ⟨gw324, gw325, gw6, cw_move⟩ hdS_L_move rfl ⟨⟨Nat.le_of_ble_eq_true rfl, Nat.le_of_ble_eq_true rfl⟩, (by show kc + 1 + 2 ≤ 600104; omega), (by show kz + 6 + 12 ≤ 7301314; omega)⟩ hP hD hS hA (perm_T (perm_ix 19 [0, 1, 2, 3, 4, 5, 6, 7, 8, 9, 10, 11, 12] [13, 14, 15, 16, 17, 18] rfl rfl rfl (by decide))) (perm_Tb (perm_ix 19 [13, 14, 15, 16, 17, 18] [0, 1, 2, 3, 4, 5, 6, 7, 8, 9, 10, 11, 12] rfl rfl rfl (by decide))) hl.1 rfl (Nat.le_of_ble_eq_true rfl) rfl (by show kc + 1 + 2 = kc + 3; omega) (by show kz + 6 + 12 = kz + 18; omega) dL_law_224 (fun H locs hP hD hS => ?_)
    refine lv_iload hx hb dL_law_227 (lv_at hl 0 rfl) ?_
    obtain ⟨b229, e229, h⟩ := bnd h
    have hr246 : ∀ (H : Heap) (locs : List Loc) (ls : Array Slot), va_P (dC, dI) vwCl (wSPo x ++ wFig (fun j => x (1 + j)) cy v224.2.1 ++ wFig (fun j => x (6 + j)) cy v224.2.2.1 ++ wP2 (fun j => x (11 + j)) cy v224.2.2.2 ++ wIA a5 cy 5 w5 ++ wIA a6 cy 40 w6 ++ wIA a7 cy 40 w7 ++ wIA a8 cy 5 v164.1 ++ wIA a9 cy 40 g179 ++ wIA a10 cy 40 g186 ++ wPF (fun j => x (11 + j)) cy (p_figs v224.2.2.2)) H → va_D (lwA s) (wSPo x ++ wFig (fun j => x (1 + j)) cy v224.2.1 ++ wFig (fun j => x (6 + j)) cy v224.2.2.1 ++ wP2 (fun j => x (11 + j)) cy v224.2.2.2 ++ wIA a5 cy 5 w5 ++ wIA a6 cy 40 w6 ++ wIA a7 cy 40 w7 ++ wIA a8 cy 5 v164.1 ++ wIA a9 cy 40 g179 ++ wIA a10 cy 40 g186 ++ wPF (fun j => x (11 + j)) cy (p_figs v224.2.2.2)) → va_S (lwA s) s.heap H locs → lv_has ls 18 [(16, .int v193), (15, .int ((10 * v100) + v115)), (14, .int v139), (13, .int v127), (12, .int v115), (11, .int v100), (10, .int v88), (9, .int v79), (8, .int l8_69), (0, .ref b), (1, .ref (x 0)), (2, .ref a5), (3, .ref a6), (4, .ref a7), (5, .ref a8), (6, .ref a9), (7, .ref a10)] → W p l e room_1 s mm #[Value.ref b] below meth cd H locs (kc + 3) (kz + 18) (lw_Z below #[Value.ref b] s) (F0 mm 246 ls [.int b229, .int v224.1]) := by
      intro H locs ls hP hD hS hl
      refine lv_icmp_eq (tgt := 251) hx hb dL_law_246 (by decide) (fun c246 => ?_) (fun c246 => ?_)
      · replace h := if_t h c246
        refine lv_iload hx hb dL_law_251 (lv_at hl 0 rfl) ?_
        have hj269 : ∀ (F_269 : Fig) (D_269 : Fig) (P_269 : PastS) (w5_269 : Nat → Int32) (w6_269 : Nat → Int32) (w7_269 : Nat → Int32) (w8_269 : Nat → Int32) (w9_269 : Nat → Int32) (w10_269 : Nat → Int32) (l9_269 : Int32) (l8_269 : Int32) (H : Heap) (locs : List Loc) (ls : Array Slot), G_L_law_j269 (G_L_law_L69 L xs n69) L xs F_269 D_269 P_269 w5_269 w6_269 w7_269 w8_269 w9_269 w10_269 l9_269 l8_269 = some 1 → va_P (dC, dI) vwCl (wSPo x ++ wFig (fun j => x (1 + j)) cy F_269 ++ wFig (fun j => x (6 + j)) cy D_269 ++ wP2 (fun j => x (11 + j)) cy P_269 ++ wIA a5 cy 5 w5_269 ++ wIA a6 cy 40 w6_269 ++ wIA a7 cy 40 w7_269 ++ wIA a8 cy 5 w8_269 ++ wIA a9 cy 40 w9_269 ++ wIA a10 cy 40 w10_269 ++ wPF (fun j => x (11 + j)) cy (p_figs P_269)) H → va_D (lwA s) (wSPo x ++ wFig (fun j => x (1 + j)) cy F_269 ++ wFig (fun j => x (6 + j)) cy D_269 ++ wP2 (fun j => x (11 + j)) cy P_269 ++ wIA a5 cy 5 w5_269 ++ wIA a6 cy 40 w6_269 ++ wIA a7 cy 40 w7_269 ++ wIA a8 cy 5 w8_269 ++ wIA a9 cy 40 w9_269 ++ wIA a10 cy 40 w10_269 ++ wPF (fun j => x (11 + j)) cy (p_figs P_269)) → va_S (lwA s) s.heap H locs → lv_has ls 18 [(9, .int l9_269), (8, .int l8_269), (0, .ref b), (1, .ref (x 0)), (2, .ref a5), (3, .ref a6), (4, .ref a7), (5, .ref a8), (6, .ref a9), (7, .ref a10)] → W p l e room_1 s mm #[Value.ref b] below meth cd H locs (kc + 3) (kz + 18) (lw_Z below #[Value.ref b] s) (F0 mm 269 ls []) := by
          intro F_269 D_269 P_269 w5_269 w6_269 w7_269 w8_269 w9_269 w10_269 l9_269 l8_269 H locs ls h hP hD hS hl
          unfold G_L_law_j269 at h
          refine lv_goto (tgt := 805) hx hb dL_law_269 (by decide) ?_
          exact hj805 F_269 D_269 P_269 w5_269 w6_269 w7_269 w8_269 w9_269 w10_269 l9_269 l8_269 H locs ls h hP hD hS (lv_sub hl [0, 1, 2, 3, 4, 5, 6, 7, 8, 9] rfl)
        refine lv_if_ne (tgt := 269) hx hb dL_law_253 (by decide) (fun c253 => ?_) (fun c253 => ?_)
        · replace h := if_f h c253
          exact hj269 v224.2.1 v224.2.2.1 v224.2.2.2 w5 w6 w7 v164.1 g179 g186 v79 l8_69 H locs ls h hP hD hS (lv_sub hl [7, 8, 9, 10, 11, 12, 13, 14, 15, 16] rfl)
        replace h := if_t h c253
        refine lv_aload hx hb dL_law_256 (lv_at hl 14 rfl) ?_
        refine lv_aload hx hb dL_law_258 (lv_at hl 15 rfl) ?_
        refine lv_aload hx hb dL_law_260 (lv_at hl 16 rfl) ?_
        refine lv_aload_n hx hb dL_law_262 rfl (lv_at hl 11 rfl) ?_
        refine lv_aload_n hx hb dL_law_263 rfl (lv_at hl 12 rfl) ?_
        refine lv_aload hx hb dL_law_264 (lv_at hl 13 rfl) ?_
        obtain ⟨v266, e266, h⟩ := bnd h
        refine cSp (av := [.ref a8, .ref a9, .ref a10, .ref a5, .ref a6, .ref a7]) (rest := []) (st1 := []) (k1 := kc + 3) (k2 := kz + 18) (wn := wSPo x ++ wFig (fun j => x (1 + j)) cy v224.2.1 ++ wFig (fun j => x (6 + j)) cy v224.2.2.1 ++ wP2 (fun j => x (11 + j)) cy v224.2.2.2 ++ wIA a5 cy 5 v266.1 ++ wIA a6 cy 40 v266.2.1 ++ wIA a7 cy 40 v266.2.2 ++ wIA a8 cy 5 v164.1 ++ wIA a9 cy 40 g179 ++ wIA a10 cy 40 g186 ++ wPF (fun j => x (11 + j)) cy (p_figs v224.2.2.2)) hx hb hml hown htg hN hK (c_L_copy l dC dI cy a8 a9 a10 a5 a6 a7 5 40 40 5 40 40 v164.1 g179 g186 w5 w6 w7  v266 e266) (g_S gw603 gw604 gw6 gw605) hdS_L_copy rfl ⟨⟨Nat.le_of_ble_eq_true rfl, Nat.le_of_ble_eq_true rfl⟩, (by show kc + 3 + 0 ≤ 600104; omega), (by show kz + 18 + 0 ≤ 7301314; omega)⟩ hP hD hS hA (perm_N (perm_ix 19 [16, 17, 18, 13, 14, 15] [0, 1, 2, 3, 4, 5, 6, 7, 8, 9, 10, 11, 12] rfl rfl rfl (by decide))) (perm_Nb (perm_ix 19 [0, 1, 2, 3, 4, 5, 6, 7, 8, 9, 10, 11, 12] [16, 17, 18, 13, 14, 15] rfl rfl rfl (by decide))) hl.1 rfl (Nat.le_of_ble_eq_true rfl) rfl (by show kc + 3 + 0 = kc + 3; omega) (by show kz + 18 + 0 = kz + 18; omega) dL_law_266 (fun H locs hP hD hS => ?_)
        exact hj269 v224.2.1 v224.2.2.1 v224.2.2.2 v266.1 v266.2.1 v266.2.2 v164.1 g179 g186 v79 l8_69 H locs ls h hP hD hS (lv_sub hl [7, 8, 9, 10, 11, 12, 13, 14, 15, 16] rfl)
      replace h := if_f h c246
      refine lv_iconst (v := 0) hx hb dL_law_249 (by decide) ?_
      exact absurd (Option.some.inj h) (by decide)
    have h := e229
    clear e229
    refine lv_if_le (tgt := 237) hx hb dL_law_229 (by decide) (fun c229 => ?_) (fun c229 => ?_)
    · replace h := if_t h c229
      refine lv_aload hx hb dL_law_237 (lv_at hl 14 rfl) ?_
      refine lv_aload hx hb dL_law_239 (lv_at hl 15 rfl) ?_
      refine lv_aload hx hb dL_law_241 (lv_at hl 16 rfl) ?_
      obtain ⟨v243, e243, h⟩ := bnd h
      refine cSp (av := [.ref a8, .ref a9, .ref a10]) (rest := [.int v224.1]) (st1 := [.int v243, .int v224.1]) (k1 := kc + 3) (k2 := kz + 18) (wn := wSPo x ++ wFig (fun j => x (1 + j)) cy v224.2.1 ++ wFig (fun j => x (6 + j)) cy v224.2.2.1 ++ wP2 (fun j => x (11 + j)) cy v224.2.2.2 ++ wIA a5 cy 5 w5 ++ wIA a6 cy 40 w6 ++ wIA a7 cy 40 w7 ++ wIA a8 cy 5 v164.1 ++ wIA a9 cy 40 g179 ++ wIA a10 cy 40 g186 ++ wPF (fun j => x (11 + j)) cy (p_figs v224.2.2.2)) hx hb hml hown htg hN hK (c_L_area l dC dI cy a8 a9 a10 5 40 40 v164.1 g179 g186  v243 e243) (g_S gw471 gw472 gw6 gw473) hdS_L_area rfl ⟨⟨Nat.le_of_ble_eq_true rfl, Nat.le_of_ble_eq_true rfl⟩, (by show kc + 3 + 0 ≤ 600104; omega), (by show kz + 18 + 0 ≤ 7301314; omega)⟩ hP hD hS hA (perm_N (perm_ix 19 [16, 17, 18] [0, 1, 2, 3, 4, 5, 6, 7, 8, 9, 10, 11, 12, 13, 14, 15] rfl rfl rfl (by decide))) (perm_Nb (perm_ix 19 [0, 1, 2, 3, 4, 5, 6, 7, 8, 9, 10, 11, 12, 13, 14, 15] [16, 17, 18] rfl rfl rfl (by decide))) hl.1 rfl (Nat.le_of_ble_eq_true rfl) rfl (by show kc + 3 + 0 = kc + 3; omega) (by show kz + 18 + 0 = kz + 18; omega) dL_law_243 (fun H locs hP hD hS => ?_)
      obtain rfl := Option.some.inj h
      exact hr246 H locs ls hP hD hS hl
    replace h := if_f h c229
    refine lv_bipush (v := (-2)) hx hb dL_law_232 (by decide) ?_
    refine lv_goto (tgt := 246) hx hb dL_law_234 (by decide) ?_
    obtain rfl := Option.some.inj h
    exact hr246 H locs ls hP hD hS hl
