/-! the law's loop and its start -/
theorem lw_ge {L i : Nat} (hL : L ≤ 2560) (hi : i ≤ L + 5) (h : ¬ (Int32.ofNat L - 5 < nI i)) : i + 5 ≤ L := by
  have e1 : Int32.ofNat L = iZ (L : Int) := (Int32.ofInt_eq_ofNat).symm
  have e2 : nI i = iZ (i : Int) := (Int32.ofInt_eq_ofNat).symm
  rw [e1, e2, show (5 : Int32) = iZ 5 from rfl, iZ_sub, iZ_lt (by omega) (by omega) (by omega) (by omega)] at h
  omega
theorem lw_out {x : Int32} (h : ∀ k : Nat, k < 27 → ¬ x = nI k) : x.toInt < 0 ∨ 26 < x.toInt := by
  by_cases c : 0 ≤ x.toInt ∧ x.toInt ≤ 26
  · exfalso
    refine h x.toInt.toNat (by omega) (Int32.toInt_inj.mp ?_)
    have e2 : nI x.toInt.toNat = iZ (x.toInt.toNat : Int) := (Int32.ofInt_eq_ofNat).symm
    rw [e2, iZ_toInt (by omega) (by omega)]
    omega
  · omega
set_option maxHeartbeats 4000000 in
set_option maxRecDepth 100000 in
theorem law_loop {p : Program} {l : Launch} {e : Env} {s : State} {m : MethodId} {below : List Frame} {meth : Method} {c : Code} {dC : Nat → ClassId} {dI : Nat → Nat → Nat} {cy : Nat → ClassId} {b L : Nat} {xs : Nat → Int32} (hL : L ≤ 2560) (C0 : lw_At p s m meth c b L xs) (hlt : l.stackTraces = false) (hN : NW s) (hC : NC s) (hE : EX (fun q : Nat => s.heap.size ≤ q) s s.heap) (hK : va_K (dC, dI) vwCl (TY cy) s) {x a : Nat → Nat} {o : Nat} :
    ∀ (n j i : Nat), i = 5 * j → i ≤ L + 5 → L + 5 < i + 5 * n → ∀ (F D : Fig) (P : PastS) (SL : Nat → Fig) (SV : Nat → Int32) (T : TextS) (WY : Nat → Int32) (md : Mod) (g : Nat → Int64) (H : Heap) (locs : List Loc) (ls : Array Slot), IW F P SL SV T md → va_P (dC, dI) vwCl (LWd x a o cy F D P SL SV T WY md g) H → va_D (fun q : Nat => s.heap.size ≤ q) (LWd x a o cy F D P SL SV T WY md g) → va_S (fun q : Nat => s.heap.size ≤ q) s.heap H locs →
      lv_has ls 7 [(0, .ref b), (1, .ref (x 0)), (2, .ref (a 0)), (3, .ref o), (4, .int (nI i))] → W p l e room_1 s m #[Value.ref b] below meth c H locs (200 + 4 * j) (5000 + 24 * j) (lw_Z below #[Value.ref b] s) (F0 m 23 ls []) := by
  have C1 := C0
  obtain ⟨hx, hb, hr, hml, hown, hts, hX, hbl, hlocks, hgv⟩ := C0
  have hbA : ¬ (fun q : Nat => s.heap.size ≤ q) b := Nat.not_le.mpr hbl
  intro n
  induction n with
  | zero =>
    intro j i ei h1 h2
    exact absurd h2 (by omega)
  | succ n ih =>
    intro j i ei hi hin F D P SL SV T WY md g H locs ls iw hP hD hS hl
    refine lv_iload hx hb dL_law_23 (lv_at hl 4 rfl) ?_
    refine lv_aload_n hx hb dL_law_25 rfl (lv_at hl 0 rfl) ?_
    refine va_slen hx hb hX hbl hbA hS dL_law_26 ?_
    refine lv_iconst (v := 5) hx hb dL_law_27 (by decide) ?_
    refine lv_isub hx hb dL_law_28 ?_
    refine lv_icmp_gt (tgt := 1747) hx hb dL_law_29 (by decide) (fun _ => ?_) (fun c29 => ?_)
    · refine lv_iconst (v := 1) hx hb dL_law_1747 (by decide) ?_
      refine va_forget (fun q hq => hS.2.2 q hq) ?_
      refine W.widen (k := 601024) (n := 7293034) (by omega) (by omega) ?_
      exact lw_ret hx hb hr hlocks dL_law_1748
    have hi5 := lw_ge hL hi c29
    have hr1 : (200 + 4 * j) + 4 ≤ 601024 := by omega
    have hr2 : (5000 + 24 * j) + 24 ≤ 7293034 := by omega
    have K : LK p l e s m below meth c (dC, dI) cy b i x a o (200 + 4 * j) (5000 + 24 * j) (lw_Z below #[Value.ref b] s) := by
      intro F D P SL SV T WY md g H locs ls iw hP hD hS hl
      refine lv_iinc (v := nI (i + 5)) (lv' := [(4, .int (nI (i + 5))), (0, .ref b), (1, .ref (x 0)), (2, .ref (a 0)), (3, .ref o)]) hx hb dL_law_1741 hl (k := 4) rfl (nI_ad i 5) (by decide) rfl (fun ls hl => ?_)
      refine lv_goto (tgt := 23) hx hb dL_law_1744 (by decide) ?_
      have := ih (j + 1) (i + 5) (by omega) (by omega) (by omega) F D P SL SV T WY md g H locs ls iw hP hD hS (lv_sub hl [1, 2, 3, 4, 0] rfl)
      rw [show 200 + 4 * (j + 1) = 200 + 4 * j + 4 by omega, show 5000 + 24 * (j + 1) = 5000 + 24 * j + 24 by omega] at this
      exact this
    refine lv_aload_n hx hb dL_law_32 rfl (lv_at hl 0 rfl) ?_
    refine lv_iload hx hb dL_law_33 (lv_at hl 4 rfl) ?_
    refine va_sld hx hb hX hbl hbA hS (vp_in_nI (by omega) (by omega)) dL_law_35 ?_
    refine lv_bipush (v := 31) hx hb dL_law_36 (by decide) ?_
    refine lv_iand hx hb dL_law_38 ?_
    refine lv_topi (fun w ew => ?_)
    by_cases w0 : w = nI 0
    · refine lv_tableIn (tgt := 160) (off := 121) hx hb dL_law_39 (by rw [w0]; decide) (by rw [w0]; decide) (by rw [w0]; rfl) (by decide) ?_
      exact law_append hL C1 hlt hN hC hE hK hi5 iw hr1 hr2 hP hD hS hl K
    by_cases w1 : w = nI 1
    · refine lv_tableIn (tgt := 216) (off := 177) hx hb dL_law_39 (by rw [w1]; decide) (by rw [w1]; decide) (by rw [w1]; rfl) (by decide) ?_
      exact law_clearText hL C1 hlt hN hC hE hK hi5 iw hr1 hr2 hP hD hS hl K
    by_cases w2 : w = nI 2
    · refine lv_tableIn (tgt := 229) (off := 190) hx hb dL_law_39 (by rw [w2]; decide) (by rw [w2]; decide) (by rw [w2]; rfl) (by decide) ?_
      exact law_errorPosition hL C1 hlt hN hC hE hK hi5 iw hr1 hr2 hP hD hS hl K
    by_cases w3 : w = nI 3
    · refine lv_tableIn (tgt := 242) (off := 203) hx hb dL_law_39 (by rw [w3]; decide) (by rw [w3]; decide) (by rw [w3]; rfl) (by decide) ?_
      exact law_load hL C1 hlt hN hC hE hK hi5 iw hr1 hr2 hP hD hS hl K
    by_cases w4 : w = nI 4
    · refine lv_tableIn (tgt := 286) (off := 247) hx hb dL_law_39 (by rw [w4]; decide) (by rw [w4]; decide) (by rw [w4]; rfl) (by decide) ?_
      exact law_about hL C1 hlt hN hC hE hK hi5 iw hr1 hr2 hP hD hS hl K
    by_cases w5 : w = nI 5
    · refine lv_tableIn (tgt := 342) (off := 303) hx hb dL_law_39 (by rw [w5]; decide) (by rw [w5]; decide) (by rw [w5]; rfl) (by decide) ?_
      exact law_ring hL C1 hlt hN hC hE hK hi5 iw hr1 hr2 hP hD hS hl K
    by_cases w6 : w = nI 6
    · refine lv_tableIn (tgt := 410) (off := 371) hx hb dL_law_39 (by rw [w6]; decide) (by rw [w6]; decide) (by rw [w6]; rfl) (by decide) ?_
      exact law_corner hL C1 hlt hN hC hE hK hi5 iw hr1 hr2 hP hD hS hl K
    by_cases w7 : w = nI 7
    · refine lv_tableIn (tgt := 490) (off := 451) hx hb dL_law_39 (by rw [w7]; decide) (by rw [w7]; decide) (by rw [w7]; rfl) (by decide) ?_
      exact law_point hL C1 hlt hN hC hE hK hi5 iw hr1 hr2 hP hD hS hl K
    by_cases w8 : w = nI 8
    · refine lv_tableIn (tgt := 558) (off := 519) hx hb dL_law_39 (by rw [w8]; decide) (by rw [w8]; decide) (by rw [w8]; rfl) (by decide) ?_
      exact law_sees hL C1 hlt hN hC hE hK hi5 iw hr1 hr2 hP hD hS hl K
    by_cases w9 : w = nI 9
    · refine lv_tableIn (tgt := 657) (off := 618) hx hb dL_law_39 (by rw [w9]; decide) (by rw [w9]; decide) (by rw [w9]; rfl) (by decide) ?_
      exact law_move hL C1 hlt hN hC hE hK hi5 iw hr1 hr2 hP hD hS hl K
    by_cases w10 : w = nI 10
    · refine lv_tableIn (tgt := 749) (off := 710) hx hb dL_law_39 (by rw [w10]; decide) (by rw [w10]; decide) (by rw [w10]; rfl) (by decide) ?_
      exact law_insert hL C1 hlt hN hC hE hK hi5 iw hr1 hr2 hP hD hS hl K
    by_cases w11 : w = nI 11
    · refine lv_tableIn (tgt := 841) (off := 802) hx hb dL_law_39 (by rw [w11]; decide) (by rw [w11]; decide) (by rw [w11]; rfl) (by decide) ?_
      exact law_remove hL C1 hlt hN hC hE hK hi5 iw hr1 hr2 hP hD hS hl K
    by_cases w12 : w = nI 12
    · refine lv_tableIn (tgt := 909) (off := 870) hx hb dL_law_39 (by rw [w12]; decide) (by rw [w12]; decide) (by rw [w12]; rfl) (by decide) ?_
      exact law_addHole hL C1 hlt hN hC hE hK hi5 iw hr1 hr2 hP hD hS hl K
    by_cases w13 : w = nI 13
    · refine lv_tableIn (tgt := 977) (off := 938) hx hb dL_law_39 (by rw [w13]; decide) (by rw [w13]; decide) (by rw [w13]; rfl) (by decide) ?_
      exact law_dropHole hL C1 hlt hN hC hE hK hi5 iw hr1 hr2 hP hD hS hl K
    by_cases w14 : w = nI 14
    · refine lv_tableIn (tgt := 1033) (off := 994) hx hb dL_law_39 (by rw [w14]; decide) (by rw [w14]; decide) (by rw [w14]; rfl) (by decide) ?_
      exact law_shift hL C1 hlt hN hC hE hK hi5 iw hr1 hr2 hP hD hS hl K
    by_cases w15 : w = nI 15
    · refine lv_tableIn (tgt := 1101) (off := 1062) hx hb dL_law_39 (by rw [w15]; decide) (by rw [w15]; decide) (by rw [w15]; rfl) (by decide) ?_
      exact law_turn hL C1 hlt hN hC hE hK hi5 iw hr1 hr2 hP hD hS hl K
    by_cases w16 : w = nI 16
    · refine lv_tableIn (tgt := 1114) (off := 1075) hx hb dL_law_39 (by rw [w16]; decide) (by rw [w16]; decide) (by rw [w16]; rfl) (by decide) ?_
      exact law_mirror hL C1 hlt hN hC hE hK hi5 iw hr1 hr2 hP hD hS hl K
    by_cases w17 : w = nI 17
    · refine lv_tableIn (tgt := 1127) (off := 1088) hx hb dL_law_39 (by rw [w17]; decide) (by rw [w17]; decide) (by rw [w17]; rfl) (by decide) ?_
      exact law_undo hL C1 hlt hN hC hE hK hi5 iw hr1 hr2 hP hD hS hl K
    by_cases w18 : w = nI 18
    · refine lv_tableIn (tgt := 1171) (off := 1132) hx hb dL_law_39 (by rw [w18]; decide) (by rw [w18]; decide) (by rw [w18]; rfl) (by decide) ?_
      exact law_whyNot hL C1 hlt hN hC hE hK hi5 iw hr1 hr2 hP hD hS hl K
    by_cases w19 : w = nI 19
    · refine lv_tableIn (tgt := 1263) (off := 1224) hx hb dL_law_39 (by rw [w19]; decide) (by rw [w19]; decide) (by rw [w19]; rfl) (by decide) ?_
      exact law_cut hL C1 hlt hN hC hE hK hi5 iw hr1 hr2 hP hD hS hl K
    by_cases w20 : w = nI 20
    · refine lv_tableIn (tgt := 1319) (off := 1280) hx hb dL_law_39 (by rw [w20]; decide) (by rw [w20]; decide) (by rw [w20]; rfl) (by decide) ?_
      exact law_bestMove hL C1 hlt hN hC hE hK hi5 iw hr1 hr2 hP hD hS hl K
    by_cases w21 : w = nI 21
    · refine lv_tableIn (tgt := 1332) (off := 1293) hx hb dL_law_39 (by rw [w21]; decide) (by rw [w21]; decide) (by rw [w21]; rfl) (by decide) ?_
      exact law_inRow hL C1 hlt hN hC hE hK hi5 iw hr1 hr2 hP hD hS hl K
    by_cases w22 : w = nI 22
    · refine lv_tableIn (tgt := 1416) (off := 1377) hx hb dL_law_39 (by rw [w22]; decide) (by rw [w22]; decide) (by rw [w22]; rfl) (by decide) ?_
      exact law_cuttings hL C1 hlt hN hC hE hK hi5 iw hr1 hr2 hP hD hS hl K
    by_cases w23 : w = nI 23
    · refine lv_tableIn (tgt := 1429) (off := 1390) hx hb dL_law_39 (by rw [w23]; decide) (by rw [w23]; decide) (by rw [w23]; rfl) (by decide) ?_
      exact law_runScript hL C1 hlt hN hC hE hK hi5 iw hr1 hr2 hP hD hS hl K
    by_cases w24 : w = nI 24
    · refine lv_tableIn (tgt := 1529) (off := 1490) hx hb dL_law_39 (by rw [w24]; decide) (by rw [w24]; decide) (by rw [w24]; rfl) (by decide) ?_
      exact law_simulate hL C1 hlt hN hC hE hK hi5 iw hr1 hr2 hP hD hS hl K
    by_cases w25 : w = nI 25
    · refine lv_tableIn (tgt := 1629) (off := 1590) hx hb dL_law_39 (by rw [w25]; decide) (by rw [w25]; decide) (by rw [w25]; rfl) (by decide) ?_
      exact law_save hL C1 hlt hN hC hE hK hi5 iw hr1 hr2 hP hD hS hl K
    by_cases w26 : w = nI 26
    · refine lv_tableIn (tgt := 1685) (off := 1646) hx hb dL_law_39 (by rw [w26]; decide) (by rw [w26]; decide) (by rw [w26]; rfl) (by decide) ?_
      exact law_restore hL C1 hlt hN hC hE hK hi5 iw hr1 hr2 hP hD hS hl K
    have hout : w.toInt < 0 ∨ 26 < w.toInt := by
      refine lw_out (fun k hk => ?_)
      rcases (by omega : k = 0 ∨ k = 1 ∨ k = 2 ∨ k = 3 ∨ k = 4 ∨ k = 5 ∨ k = 6 ∨ k = 7 ∨ k = 8 ∨ k = 9 ∨ k = 10 ∨ k = 11 ∨ k = 12 ∨ k = 13 ∨ k = 14 ∨ k = 15 ∨ k = 16 ∨ k = 17 ∨ k = 18 ∨ k = 19 ∨ k = 20 ∨ k = 21 ∨ k = 22 ∨ k = 23 ∨ k = 24 ∨ k = 25 ∨ k = 26) with rfl | rfl | rfl | rfl | rfl | rfl | rfl | rfl | rfl | rfl | rfl | rfl | rfl | rfl | rfl | rfl | rfl | rfl | rfl | rfl | rfl | rfl | rfl | rfl | rfl | rfl | rfl
      · exact w0
      · exact w1
      · exact w2
      · exact w3
      · exact w4
      · exact w5
      · exact w6
      · exact w7
      · exact w8
      · exact w9
      · exact w10
      · exact w11
      · exact w12
      · exact w13
      · exact w14
      · exact w15
      · exact w16
      · exact w17
      · exact w18
      · exact w19
      · exact w20
      · exact w21
      · exact w22
      · exact w23
      · exact w24
      · exact w25
      · exact w26
    refine lv_tableOut (tgt := 1741) hx hb dL_law_39 hout (by decide) ?_
    refine W.widen (k := 200 + 4 * j + 4) (n := 5000 + 24 * j + 24) (by omega) (by omega) ?_
    exact K F D P SL SV T WY md g H locs ls iw hP hD hS hl
theorem hdS_X8_init : yX8_init.cls ≠ "java/lang/invoke/MethodHandle" ∧ yX8_init.cls ≠ "java/lang/invoke/VarHandle" ∧ (parseMethodDescriptor yX8_init.desc).map (fun d => d.parameters.length) = some 0 := by decide +kernel
theorem pm_start (s f d p sl ba t ia q mo la : va_W) : (((s ++ f ++ d ++ p ++ sl ++ ba ++ t ++ ia ++ q) ++ mo) ++ la).Perm (la ++ (s ++ (f ++ (d ++ (p ++ (q ++ (sl ++ (ba ++ (t ++ (ia ++ mo)))))))))) := perm_sum (fun z hz => by simp only [hz]; omega)
theorem NWs_on : ∀ w ∈ NWs, w.onTables = true := by decide +kernel
theorem NWs_in : ∀ w ∈ NWs, w ∈ lw_tbl := fun w hw => of_decide_eq_true (List.all_eq_true.mp (by decide +kernel : NWs.all (fun w => decide (w ∈ lw_tbl)) = true) w hw)
theorem XWs_in : ∀ w ∈ XWs, w ∈ lw_tbl := fun w hw => of_decide_eq_true (List.all_eq_true.mp (by decide +kernel : XWs.all (fun w => decide (w ∈ lw_tbl)) = true) w hw)
theorem strs_in : ∀ q ∈ strs, Cond.stringRef RX8 q.1 q.2 ∈ lw_tbl := fun q hq => of_decide_eq_true (List.all_eq_true.mp (by decide +kernel : strs.all (fun q => decide (Cond.stringRef RX8 q.1 q.2 ∈ lw_tbl)) = true) q hq)
theorem strs_ex : ∀ q ∈ strs, Cond.exactly (Term.string RX8 q.1) "java/lang/String" ∈ flatC (Jvm.Cond.and given_1 narrow_1) := fun q hq => of_decide_eq_true (List.all_eq_true.mp (by decide +kernel : strs.all (fun q => decide (Cond.exactly (Term.string RX8 q.1) "java/lang/String" ∈ flatC (Jvm.Cond.and given_1 narrow_1))) = true) q hq)
theorem zq_in : (Cond.laysStatic Bundle.tN "UNASSIGNED_STACK" Bundle.steD ∈ lw_tbl ∧ Cond.laysStatic Bundle.tN "SUPPRESSED_SENTINEL" Bundle.listD ∈ lw_tbl ∧ Cond.initialized Bundle.tN ∈ lw_tbl) := ⟨by decide +kernel, by decide +kernel, by decide +kernel⟩
theorem zq_ref : (Cond.isRef (.static Bundle.tN "UNASSIGNED_STACK" Bundle.steD) ∈ flatC (Jvm.Cond.and given_1 narrow_1) ∧ Cond.isRef (.static Bundle.tN "SUPPRESSED_SENTINEL" Bundle.listD) ∈ flatC (Jvm.Cond.and given_1 narrow_1)) := ⟨by decide +kernel, by decide +kernel⟩
theorem nc_12 : Cond.not (Cond.castable (exn 1) (exn 2)) ∈ flatC (Jvm.Cond.and given_1 narrow_1) := by decide +kernel
theorem nc_13 : Cond.not (Cond.castable (exn 1) (exn 3)) ∈ flatC (Jvm.Cond.and given_1 narrow_1) := by decide +kernel
theorem nc_21 : Cond.not (Cond.castable (exn 2) (exn 1)) ∈ flatC (Jvm.Cond.and given_1 narrow_1) := by decide +kernel
theorem nc_23 : Cond.not (Cond.castable (exn 2) (exn 3)) ∈ flatC (Jvm.Cond.and given_1 narrow_1) := by decide +kernel
theorem nc_31 : Cond.not (Cond.castable (exn 3) (exn 1)) ∈ flatC (Jvm.Cond.and given_1 narrow_1) := by decide +kernel
theorem nc_32 : Cond.not (Cond.castable (exn 3) (exn 2)) ∈ flatC (Jvm.Cond.and given_1 narrow_1) := by decide +kernel
set_option maxHeartbeats 4000000 in
set_option maxRecDepth 100000 in
theorem whole_start {p : Program} {e : Env} {s : State} {m : MethodId} {below : List Frame} {meth : Method} {c : Code} (l : Launch) (hflags : l.flags = flags0) {b L : Nat} {xs : Nat → Int32} (hL : L ≤ 2560) (C0 : lw_At p s m meth c b L xs) : W p l e room_1 s m #[Value.ref b] below meth c s.heap [] 0 0 (lw_Z below #[Value.ref b] s) (entryFrame m ([Value.ref b] : List Value).toArray 7) := by
  have C1 := C0
  obtain ⟨hx, hb, hr, hml, hown, hts, hX, hbl, hlocks, hgv⟩ := C0
  have htg : ∀ w ∈ GW, w.before #[Value.ref b] s = true := fun w hw => hts w (List.mem_filter.mp hw).1
  have hA : ∀ q : Nat, s.heap.size ≤ q → (fun q : Nat => s.heap.size ≤ q) q := fun _ h => h
  have hnA : ∀ a : Nat, a < s.heap.size → ¬ (fun q : Nat => s.heap.size ≤ q) a := fun _ h => Nat.not_le.mpr h
  have hlt : l.stackTraces = false := by
    unfold Launch.stackTraces
    rw [hflags]
    decide +kernel
  have hfl := flat_of_before _ hgv
  have hN : NW s := fun w hw => va_Nw.of (NWs_on w hw) (hts w (NWs_in w hw))
  have hXW : NX s := fun w hw => va_Nw.of (XWs_on w hw) (hts w (XWs_in w hw))
  have hC : NC s := by
    intro i j hi hj hij
    rcases hi with rfl | rfl | rfl
    · rcases hj with rfl | rfl | rfl
      · exact absurd rfl hij
      · exact va_Nc.of (hfl _ nc_12)
      · exact va_Nc.of (hfl _ nc_13)
    · rcases hj with rfl | rfl | rfl
      · exact va_Nc.of (hfl _ nc_21)
      · exact absurd rfl hij
      · exact va_Nc.of (hfl _ nc_23)
    · rcases hj with rfl | rfl | rfl
      · exact va_Nc.of (hfl _ nc_31)
      · exact va_Nc.of (hfl _ nc_32)
      · exact absurd rfl hij
  have hE : EX (fun q : Nat => s.heap.size ≤ q) s s.heap := by
    refine ⟨fun q hq => ?_, vx_Zqof (hts _ zq_in.1) (hts _ zq_in.2.2) (hfl _ zq_ref.1) hnA, vx_Zqof (hts _ zq_in.2.1) (hts _ zq_in.2.2) (hfl _ zq_ref.2) hnA, hXW⟩
    obtain ⟨ad, -, -, -, q1, -⟩ := Cond.exactly_spec (hfl _ (strs_ex q hq))
    exact ⟨ad, vk_R.of (hts _ (strs_in q hq)) q1⟩
  have hO : va_AO "SquaredPaper$Figure" s := va_AO.of (hts (Cond.arrayOver (.object "SquaredPaper$Figure")) (by decide +kernel))
  obtain ⟨cy, hcy⟩ := ty_ok (htg _ ac_int) (htg _ ac_boolean) (htg _ ac_char) (htg _ ac_long) (hts (Cond.arrayOver (.object "SquaredPaper$Figure")) (by decide +kernel))
  obtain ⟨c1, i1, kn1⟩ := u_known (C := RX1) (T := TX1) (N := 6) (n := 6) htg inX1 (htg _ gw86)
  obtain ⟨c3, i3, kn3⟩ := u_known (C := RX3) (T := TX3) (N := 3) (n := 3) htg inX3 (htg _ gw121)
  obtain ⟨c7, i7, kn7⟩ := u_known (C := RX7) (T := TX7) (N := 2) (n := 2) htg inX7 (htg _ gw141)
  obtain ⟨c8, i8, kn8⟩ := u_known (C := RX8) (T := TX8) (N := 7) (n := 7) htg inX8 (htg _ gw78)
  obtain ⟨c9, i9, kn9⟩ := u_known (C := RX9) (T := TX9) (N := 18) (n := 18) htg inX9 (htg _ gw841)
  obtain ⟨dC, dI, hKc⟩ : ∃ (dC : Nat → ClassId) (dI : Nat → Nat → Nat), ∀ (k : Nat) (q : vw_C), vwCl[k]? = some q → u_Kn s q.1 q.2.1 q.2.2 (dC k) (dI k) := by
    refine ⟨fun k => if k = 0 then c1 else if k = 1 then c3 else if k = 2 then c7 else if k = 3 then c8 else c9, fun k => if k = 0 then i1 else if k = 1 then i3 else if k = 2 then i7 else if k = 3 then i8 else i9, ?_⟩
    intro k q hq
    rcases (by have h := (List.getElem?_eq_some_iff.mp hq).1; have h : k < 5 := h; omega : k = 0 ∨ k = 1 ∨ k = 2 ∨ k = 3 ∨ k = 4) with rfl | rfl | rfl | rfl | rfl
    · obtain rfl := Option.some.inj hq
      exact kn1
    · obtain rfl := Option.some.inj hq
      exact kn3
    · obtain rfl := Option.some.inj hq
      exact kn7
    · obtain rfl := Option.some.inj hq
      exact kn8
    · obtain rfl := Option.some.inj hq
      exact kn9
  have hK : va_K (dC, dI) vwCl (TY cy) s := ⟨hKc, fun k q h => hcy k q h⟩
  have hS : va_S (fun q : Nat => s.heap.size ≤ q) s.heap s.heap [] := va_S.rf
  have hP : va_P (dC, dI) vwCl [] s.heap := fun k q h => by simp at h
  have hD : va_D (fun q : Nat => s.heap.size ≤ q) [] := ⟨fun i j p q h => by simp at h, fun k q h => by simp at h⟩
  have hl := lv_entry ([.ref b]) (n := 7) (Nat.le_of_ble_eq_true rfl)
  rw [lg_entry_eq]
  generalize (lg_sl ([.ref b]) ++ List.replicate (7 - (lg_sl ([.ref b])).length) Slot.unset).toArray = ls at hl ⊢
  have hl : lv_has ls 7 [(0, .ref b)] := hl
  refine va_new (ci := 3) (fs := [.null, .null, .null, .null, .null, .null, .null]) (C := RX8) (T := TX8) (N := 7) hx hb htg inX8 tyX8 tyX8_ok hown (htg _ gw77) (htg _ gw78) (htg _ gw59) hK hP hD hS hA rfl (fun j hj => by rcases (by omega : j = 0 ∨ j = 1 ∨ j = 2 ∨ j = 3 ∨ j = 4 ∨ j = 5 ∨ j = 6) with rfl | rfl | rfl | rfl | rfl | rfl | rfl <;> rfl) (Nat.le_of_ble_eq_true rfl) (Nat.le_of_ble_eq_true rfl) dL_law_0 (fun qx H hP hD hS => ?_)
  refine lv_dup hx hb dL_law_3 rfl ?_
  refine cNIp (rest := [.ref qx]) (k1 := 98) (k2 := 2560) hx hb hml hown htg hN hO hK (c_X8_init l dC dI cy qx) gw79 gw80 gw59 gw81 rfl hdS_X8_init ⟨⟨Nat.le_of_ble_eq_true rfl, Nat.le_of_ble_eq_true rfl⟩, Nat.le_of_ble_eq_true rfl, Nat.le_of_ble_eq_true rfl⟩ hP hD hS hA (List.Perm.refl _) hl.1 rfl (Nat.le_of_ble_eq_true rfl) rfl rfl dL_law_4 (fun H locs w8 hg hP1 hD1 hS1 => ?_)
  obtain ⟨x, rfl, ew8⟩ := hg
  have hP : va_P (dC, dI) vwCl w8 H := hP1
  have hD : va_D (fun q : Nat => s.heap.size ≤ q) w8 := hD1
  have hS := hS1
  refine lv_astore_n (lv' := [(1, .ref (x 0)), (0, .ref b)]) hx hb dL_law_7 rfl hl (by decide) rfl (fun ls hl => ?_)
  refine va_new (ci := 4) (fs := [.int 0, .null, .null, .null, .null, .int 0, .null, .null, .null, .int 0, .int 0, .null, .null, .null, .null, .null, .null, .null]) (C := RX9) (T := TX9) (N := 18) hx hb htg inX9 tyX9 tyX9_ok hown (htg _ gw840) (htg _ gw841) (htg _ gw63) hK hP hD hS hA rfl (fun j hj => by rcases (by omega : j = 0 ∨ j = 1 ∨ j = 2 ∨ j = 3 ∨ j = 4 ∨ j = 5 ∨ j = 6 ∨ j = 7 ∨ j = 8 ∨ j = 9 ∨ j = 10 ∨ j = 11 ∨ j = 12 ∨ j = 13 ∨ j = 14 ∨ j = 15 ∨ j = 16 ∨ j = 17) with rfl | rfl | rfl | rfl | rfl | rfl | rfl | rfl | rfl | rfl | rfl | rfl | rfl | rfl | rfl | rfl | rfl | rfl <;> rfl) (Nat.le_of_ble_eq_true rfl) (Nat.le_of_ble_eq_true rfl) dL_law_8 (fun qa H hP hD hS => ?_)
  refine lv_dup hx hb dL_law_11 rfl ?_
  refine cNIp (rest := [.ref qa]) (k1 := 113) (k2 := 4625) hx hb hml hown htg hN hO hK (c_X9_init l dC dI cy qa) gw842 gw843 gw63 gw844 rfl hdS_X9_init ⟨⟨Nat.le_of_ble_eq_true rfl, Nat.le_of_ble_eq_true rfl⟩, Nat.le_of_ble_eq_true rfl, Nat.le_of_ble_eq_true rfl⟩ hP hD hS hA List.perm_append_comm hl.1 rfl (Nat.le_of_ble_eq_true rfl) rfl rfl dL_law_12 (fun H locs w9 hg hP1 hD1 hS1 => ?_)
  obtain ⟨a, rfl, rfl⟩ := hg
  have hP := hP1
  have hD := hD1
  have hS := hS1
  refine lv_astore_n (lv' := [(2, .ref (a 0)), (1, .ref (x 0)), (0, .ref b)]) hx hb dL_law_15 rfl hl (by decide) rfl (fun ls hl => ?_)
  refine lv_iconst (v := 1) hx hb dL_law_16 (by decide) ?_
  refine va_newa (atype := .long) (ty := .long) (a0 := (1, .inr (.inl (fun _ => 0)))) (N' := 1) hx hb (htg _ ac_long) rfl hK hP hD hS hA (fun cA => by rw [vp_cell_l]; rfl) (by decide) (by decide) (by decide) (Nat.le_of_ble_eq_true rfl) (Nat.le_of_ble_eq_true rfl) dL_law_17 (fun o cA H hK1 hP hD hS => ?_)
  have hcA : cA = cy 4 := by
    have h1 := (hK1.2 (TY cy).length (cA, .long) (by rw [List.getElem?_append_right (Nat.le_refl _), Nat.sub_self]; rfl)).2
    have h2 := (hK.2 4 _ rfl).2
    exact Option.some.inj (Eq.trans (Eq.symm h1) h2)
  subst hcA
  refine lv_astore_n (lv' := [(3, .ref o), (2, .ref (a 0)), (1, .ref (x 0)), (0, .ref b)]) hx hb dL_law_19 rfl hl (by decide) rfl (fun ls hl => ?_)
  refine lv_iconst (v := 0) hx hb dL_law_20 (by decide) ?_
  refine lv_istore (lv' := [(4, .int (nI 0)), (3, .ref o), (2, .ref (a 0)), (1, .ref (x 0)), (0, .ref b)]) hx hb dL_law_21 hl (by decide) rfl (fun ls hl => ?_)
  have hpm : ((w8 ++ wMod a cy mod5) ++ wLA o cy (fun _ => 0)).Perm (LWd x a o cy figA8 fig0 past0 (fun _ => fig0) (fun _ => 0) text0 (fun _ => 0) mod5 (fun _ => 0)) := by
    rw [ew8]
    unfold SPw
    exact pm_start _ _ _ _ _ _ _ _ _ _ _
  refine W.widen (k := 200 + 4 * 0) (n := 5000 + 24 * 0) (by omega) (by omega) ?_
  exact law_loop hL C1 hlt hN hC hE hK 514 0 0 rfl (by omega) (by omega) figA8 fig0 past0 (fun _ => fig0) (fun _ => 0) text0 (fun _ => 0) mod5 (fun _ => 0) H locs ls sq_iw (hP.perm hpm) (hD.perm hpm) hS (lv_sub hl [4, 3, 2, 1, 0] rfl)
