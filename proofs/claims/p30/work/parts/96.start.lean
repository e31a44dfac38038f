/-! the law's start -/
def sqQ : Nat → Pt := fun c => if c = 0 then (0, 0) else if c = 1 then (4, 0) else if c = 2 then (4, 4) else (0, 4)
def sqM : Nat → Nat := fun _ => 4
theorem sq_rf : RF figA8 sqM 1 sqQ := by
  refine ⟨by decide +kernel, by decide +kernel, by omega, fun r _ => by show 4 ≤ 10; omega, fun r hr => ?_, fun c hc => ?_, fun c hc => ?_⟩
  · obtain rfl : r = 0 := by omega
    decide +kernel
  · have hc : c < 4 := hc
    rcases (by omega : c = 0 ∨ c = 1 ∨ c = 2 ∨ c = 3) with rfl | rfl | rfl | rfl
    · decide +kernel
    · decide +kernel
    · decide +kernel
    · decide +kernel
  · have hc : c < 4 := hc
    rcases (by omega : c = 0 ∨ c = 1 ∨ c = 2 ∨ c = 3) with rfl | rfl | rfl | rfl
    · decide +kernel
    · decide +kernel
    · decide +kernel
    · decide +kernel
theorem sq_ok : gm_ok sqM 1 sqQ := by
  have fit : gm_fit sqM 1 sqQ := fun c hc => by
    have hc : c < 4 := hc
    rcases (by omega : c = 0 ∨ c = 1 ∨ c = 2 ∨ c = 3) with rfl | rfl | rfl | rfl
    · decide +kernel
    · decide +kernel
    · decide +kernel
    · decide +kernel
  obtain ⟨z, z0, z5, br, e⟩ := s_firstBroken sq_rf fit (fun r _ => by show 3 ≤ 4; omega) (by omega)
  have e2 : G_X4_firstBroken figA8 = some 0 := by decide +kernel
  have e3 : iZ z = iZ 0 := Option.some.inj (e.symm.trans e2)
  have e4 : z = 0 := by
    have := congrArg Int32.toInt e3
    rw [iZ_toInt (by omega) (by omega), iZ_toInt (by omega) (by omega)] at this
    exact this
  exact gm_brk_ok ⟨by omega, by omega⟩ (fun r _ => by show 3 ≤ 4 ∧ 4 ≤ 10; omega) (e4 ▸ br)
def st5 : AR := upd (upd (fun _ => 0) 0 1) 1 4
def st6 : AR := upd (upd (fun _ => 0) 1 4) 2 4
def st7 : AR := upd (upd (fun _ => 0) 2 4) 3 4
theorem sq_ic : IC figA8 past0 sqM 1 sqQ := ⟨sq_ok, sq_rf, 0, fun _ => (1, sqM, sqQ), ⟨by omega, by decide +kernel, 0, by omega, by decide +kernel, fun i hi => absurd hi (Nat.not_lt_zero i)⟩⟩
theorem sq_rq : RQ st5 st6 st7 sqM 1 sqQ := by
  refine RQ.of_ab (by decide +kernel) (by omega) (fun r hr => ?_) (fun a b ha hb => ?_)
  · obtain rfl : r = 0 := by omega
    exact ⟨by show 3 ≤ 4; omega, by show 4 ≤ 10; omega, by decide +kernel⟩
  · obtain rfl : a = 0 := by omega
    have hb : b < 4 := hb
    rcases (by omega : b = 0 ∨ b = 1 ∨ b = 2 ∨ b = 3) with rfl | rfl | rfl | rfl
    · decide +kernel
    · decide +kernel
    · decide +kernel
    · decide +kernel
theorem law_all {L : Nat} {xs : AR} (hL : L ≤ 260) : G_L_law_L69 L xs 13 figA8 fig0 past0 st5 st6 st7 (fun _ => 0) (fun _ => 0) (fun _ => 0) 0 = some 1 :=
  law_G hL 12 13 0 (by omega) (by omega) figA8 fig0 past0 st5 st6 st7 _ _ _ sqM 1 sqQ sq_ic sq_rq
theorem NWs_on : ∀ w ∈ NWs, w.onTables = true := by decide +kernel
theorem NWs_in : ∀ w ∈ NWs, w ∈ lw_tbl := fun w hw => of_decide_eq_true (List.all_eq_true.mp (by decide +kernel : NWs.all (fun w => decide (w ∈ lw_tbl)) = true) w hw)
theorem XWs_in : ∀ w ∈ XWs, w ∈ lw_tbl := fun w hw => of_decide_eq_true (List.all_eq_true.mp (by decide +kernel : XWs.all (fun w => decide (w ∈ lw_tbl)) = true) w hw)
theorem strs_in : ∀ q ∈ strs, Cond.stringRef RX8 q.1 q.2 ∈ lw_tbl := fun q hq => of_decide_eq_true (List.all_eq_true.mp (by decide +kernel : strs.all (fun q => decide (Cond.stringRef RX8 q.1 q.2 ∈ lw_tbl)) = true) q hq)
theorem strs_ex : ∀ q ∈ strs, Cond.exactly (Term.string RX8 q.1) "java/lang/String" ∈ flatC (Jvm.Cond.and given_1 narrow_1) := fun q hq => of_decide_eq_true (List.all_eq_true.mp (by decide +kernel : strs.all (fun q => decide (Cond.exactly (Term.string RX8 q.1) "java/lang/String" ∈ flatC (Jvm.Cond.and given_1 narrow_1))) = true) q hq)
theorem zq_in : (Cond.laysStatic Bundle.tN "UNASSIGNED_STACK" Bundle.steD ∈ lw_tbl ∧ Cond.laysStatic Bundle.tN "SUPPRESSED_SENTINEL" Bundle.listD ∈ lw_tbl ∧ Cond.initialized Bundle.tN ∈ lw_tbl) := ⟨by decide +kernel, by decide +kernel, by decide +kernel⟩
theorem zq_ref : (Cond.isRef (.static Bundle.tN "UNASSIGNED_STACK" Bundle.steD) ∈ flatC (Jvm.Cond.and given_1 narrow_1) ∧ Cond.isRef (.static Bundle.tN "SUPPRESSED_SENTINEL" Bundle.listD) ∈ flatC (Jvm.Cond.and given_1 narrow_1)) := ⟨by decide +kernel, by decide +kernel⟩
theorem nc_12 : Cond.not (Cond.castable (exn 1) (exn 2)) ∈ flatC (Jvm.Cond.and given_1 narrow_1) := by decide +kernel
theorem nc_13 : Cond.not (Cond.castable (exn 1) (exn 3)) ∈ flatC (Jvm.Cond.and given_1 narrow_1) := by decide +kernel
theorem nc_21 : Cond.not (Cond.castable (exn 2) (exn 1)) ∈ flatC (Jvm.Cond.and given_1 narrow_1) := by decide +kernel
theorem nc_23 : Cond.not (Cond.castable (exn 2) (exn 3)) ∈ flatC (Jvm.Cond.and given_1 narrow_1) := by decide +kernel
theorem nc_31 : Cond.not (Cond.castable (exn 3) (exn 1)) ∈ flatC (Jvm.Cond.and given_1 narrow_1) := by decide +kernel
theorem nc_32 : Cond.not (Cond.castable (exn 3) (exn 2)) ∈ flatC (Jvm.Cond.and given_1 narrow_1) := by decide +kernel
theorem hdS_X8_init : yX8_init.cls ≠ "java/lang/invoke/MethodHandle" ∧ yX8_init.cls ≠ "java/lang/invoke/VarHandle" ∧ (parseMethodDescriptor yX8_init.desc).map (fun d => d.parameters.length) = some 0 := by decide +kernel
theorem pm_first (w a b c d e g : va_W) : ((((((w ++ a) ++ b) ++ c) ++ d) ++ e) ++ g).Perm (a ++ (b ++ (c ++ (d ++ (e ++ (g ++ w)))))) := perm_sum (fun z hz => by simp only [hz]; omega)
theorem pm_last (s f d p sl ba t ia q A B C D E G : va_W) : (A ++ (B ++ (C ++ (D ++ (E ++ (G ++ (s ++ f ++ d ++ p ++ sl ++ ba ++ t ++ ia ++ q))))))).Perm ((s ++ f ++ d ++ p ++ A ++ B ++ C ++ D ++ E ++ G ++ q) ++ (sl ++ ba ++ t ++ ia)) := perm_sum (fun z hz => by simp only [hz]; omega)
set_option maxHeartbeats 4000000 in
set_option maxRecDepth 100000 in
theorem whole_start {p : Program} {e : Env} {s : State} {m : MethodId} {below : List Frame} {meth : Method} {c : Code} (l : Launch) (hflags : l.flags = flags0) {b L : Nat} {xs : Nat → Int32} (hL : L ≤ 260) (C0 : lw_At p s m meth c b L xs) : W p l e room_1 s m #[Value.ref b] below meth c s.heap [] 0 0 (lw_Z below #[Value.ref b] s) (entryFrame m ([Value.ref b] : List Value).toArray 18) := by
  have C1 := C0
  obtain ⟨hx, hb, hr, hml, hown, hts, hX, hbl, hlocks, hgv⟩ := C0
  have htg : ∀ w ∈ GW, w.before #[Value.ref b] s = true := fun w hw => hts w (List.mem_filter.mp hw).1
  have hA : ∀ q : Nat, s.heap.size ≤ q → (fun q : Nat => s.heap.size ≤ q) q := fun _ h => h
  have hnA : ∀ a : Nat, a < s.heap.size → ¬ (fun q : Nat => s.heap.size ≤ q) a := fun _ h => Nat.not_le.mpr h
  have hlt : l.stackTraces = false := by
    unfold Launch.stackTraces
    rw [hflags]
    decide +kernel
  have hfl := flat_of_before _ hgv
  have hN : NW s := fun w hw => va_Nw.of (NWs_on w hw) (hts w (NWs_in w hw))
  have hXW : NX s := fun w hw => va_Nw.of (XWs_on w hw) (hts w (XWs_in w hw))
  have hC : NC s := by
    intro i j hi hj hij
    rcases hi with rfl | rfl | rfl
    · rcases hj with rfl | rfl | rfl
      · exact absurd rfl hij
      · exact va_Nc.of (hfl _ nc_12)
      · exact va_Nc.of (hfl _ nc_13)
    · rcases hj with rfl | rfl | rfl
      · exact va_Nc.of (hfl _ nc_21)
      · exact absurd rfl hij
      · exact va_Nc.of (hfl _ nc_23)
    · rcases hj with rfl | rfl | rfl
      · exact va_Nc.of (hfl _ nc_31)
      · exact va_Nc.of (hfl _ nc_32)
      · exact absurd rfl hij
  have hE : EX (fun q : Nat => s.heap.size ≤ q) s s.heap := by
    refine ⟨fun q hq => ?_, vx_Zqof (hts _ zq_in.1) (hts _ zq_in.2.2) (hfl _ zq_ref.1) hnA, vx_Zqof (hts _ zq_in.2.1) (hts _ zq_in.2.2) (hfl _ zq_ref.2) hnA, hXW⟩
    obtain ⟨ad, -, -, -, q1, -⟩ := Cond.exactly_spec (hfl _ (strs_ex q hq))
    exact ⟨ad, vk_R.of (hts _ (strs_in q hq)) q1⟩
  have hO : va_AO "SquaredPaper$Figure" s := va_AO.of (hts (Cond.arrayOver (.object "SquaredPaper$Figure")) (by decide +kernel))
  obtain ⟨cy, hcy⟩ := ty_ok (htg _ ac_int) (htg _ ac_boolean) (htg _ ac_char) (hts (Cond.arrayOver (.object "SquaredPaper$Figure")) (by decide +kernel))
  obtain ⟨c1, i1, kn1⟩ := u_known (C := RX1) (T := TX1) (N := 6) (n := 6) htg inX1 (htg _ gw32)
  obtain ⟨c3, i3, kn3⟩ := u_known (C := RX3) (T := TX3) (N := 3) (n := 3) htg inX3 (htg _ gw65)
  obtain ⟨c7, i7, kn7⟩ := u_known (C := RX7) (T := TX7) (N := 2) (n := 2) htg inX7 (htg _ gw84)
  obtain ⟨c8, i8, kn8⟩ := u_known (C := RX8) (T := TX8) (N := 7) (n := 7) htg inX8 (htg _ gw24)
  obtain ⟨dC, dI, hKc⟩ : ∃ (dC : Nat → ClassId) (dI : Nat → Nat → Nat), ∀ (k : Nat) (q : vw_C), vwCl[k]? = some q → u_Kn s q.1 q.2.1 q.2.2 (dC k) (dI k) := by
    refine ⟨fun k => if k = 0 then c1 else if k = 1 then c3 else if k = 2 then c7 else c8, fun k => if k = 0 then i1 else if k = 1 then i3 else if k = 2 then i7 else i8, ?_⟩
    intro k q hq
    rcases (by have h := (List.getElem?_eq_some_iff.mp hq).1; have h : k < 4 := h; omega : k = 0 ∨ k = 1 ∨ k = 2 ∨ k = 3) with rfl | rfl | rfl | rfl
    · obtain rfl := Option.some.inj hq
      exact kn1
    · obtain rfl := Option.some.inj hq
      exact kn3
    · obtain rfl := Option.some.inj hq
      exact kn7
    · obtain rfl := Option.some.inj hq
      exact kn8
  have hK : va_K (dC, dI) vwCl (TY cy) s := ⟨hKc, fun k q h => hcy k q h⟩
  have hS : va_S (fun q : Nat => s.heap.size ≤ q) s.heap s.heap [] := va_S.rf
  have hP : va_P (dC, dI) vwCl [] s.heap := fun k q h => by simp at h
  have hD : va_D (fun q : Nat => s.heap.size ≤ q) [] := ⟨fun i j p q h => by simp at h, fun k q h => by simp at h⟩
  have hl := lv_entry ([.ref b]) (n := 18) (Nat.le_of_ble_eq_true rfl)
  rw [lg_entry_eq]
  generalize (lg_sl ([.ref b]) ++ List.replicate (18 - (lg_sl ([.ref b])).length) Slot.unset).toArray = ls at hl ⊢
  have hl : lv_has ls 18 [(0, .ref b)] := hl
  refine va_new (ci := 3) (fs := [.null, .null, .null, .null, .null, .null, .null]) (C := RX8) (T := TX8) (N := 7) hx hb htg inX8 tyX8 tyX8_ok hown (htg _ gw23) (htg _ gw24) (htg _ gw7) hK hP hD hS hA rfl (fun j hj => by rcases (by omega : j = 0 ∨ j = 1 ∨ j = 2 ∨ j = 3 ∨ j = 4 ∨ j = 5 ∨ j = 6) with rfl | rfl | rfl | rfl | rfl | rfl | rfl <;> rfl) (Nat.le_of_ble_eq_true rfl) (Nat.le_of_ble_eq_true rfl) dL_law_0 (fun qx H hP hD hS => ?_)
  refine lv_dup hx hb dL_law_3 rfl ?_
  refine cNIp (rest := [.ref qx]) (k1 := 98) (k2 := 2560) hx hb hml hown htg hN hO hK (c_X8_init l dC dI cy qx) gw25 gw26 gw7 gw27 rfl hdS_X8_init ⟨⟨Nat.le_of_ble_eq_true rfl, Nat.le_of_ble_eq_true rfl⟩, Nat.le_of_ble_eq_true rfl, Nat.le_of_ble_eq_true rfl⟩ hP hD hS hA (List.Perm.refl _) hl.1 rfl (Nat.le_of_ble_eq_true rfl) rfl rfl dL_law_4 (fun H locs w8 hg hP1 hD1 hS1 => ?_)
  obtain ⟨x, rfl, ew8⟩ := hg
  have hP : va_P (dC, dI) vwCl w8 H := hP1
  have hD : va_D (lwA s) w8 := hD1
  have hS : va_S (lwA s) s.heap H locs := hS1
  have hA : ∀ q : Nat, s.heap.size ≤ q → lwA s q := fun _ h => h
  refine lv_astore_n (lv' := [(1, .ref (x 0)), (0, .ref b)]) hx hb dL_law_7 rfl hl (by decide) rfl (fun ls hl => ?_)
  refine lv_iconst (v := 5) hx hb dL_law_8 (by decide) ?_
  refine x_newa (ty := .int) hx hb (htg _ ac_int) rfl hK 0 rfl (by simp) hP hD hS hA 5 (k1 := 99) (k2 := 2565) (by decide) (by decide) (by decide) rfl rfl (Nat.le_of_ble_eq_true rfl) (Nat.le_of_ble_eq_true rfl) dL_law_9 (fun a5 H hP hD hS => ?_)
  have hP : va_P (dC, dI) vwCl (w8 ++ wIA a5 cy 5 (fun _ => 0)) H := hP
  have hD : va_D (lwA s) (w8 ++ wIA a5 cy 5 (fun _ => 0)) := hD
  refine lv_astore_n (lv' := [(2, .ref a5), (1, .ref (x 0)), (0, .ref b)]) hx hb dL_law_11 rfl hl (by decide) rfl (fun ls hl => ?_)
  refine lv_bipush (v := 40) hx hb dL_law_12 (by decide) ?_
  refine x_newa (ty := .int) hx hb (htg _ ac_int) rfl hK 0 rfl (by simp) hP hD hS hA 40 (k1 := 100) (k2 := 2605) (by decide) (by decide) (by decide) rfl rfl (Nat.le_of_ble_eq_true rfl) (Nat.le_of_ble_eq_true rfl) dL_law_14 (fun a6 H hP hD hS => ?_)
  have hP : va_P (dC, dI) vwCl ((w8 ++ wIA a5 cy 5 (fun _ => 0)) ++ wIA a6 cy 40 (fun _ => 0)) H := hP
  have hD : va_D (lwA s) ((w8 ++ wIA a5 cy 5 (fun _ => 0)) ++ wIA a6 cy 40 (fun _ => 0)) := hD
  refine lv_astore_n (lv' := [(3, .ref a6), (2, .ref a5), (1, .ref (x 0)), (0, .ref b)]) hx hb dL_law_16 rfl hl (by decide) rfl (fun ls hl => ?_)
  refine lv_bipush (v := 40) hx hb dL_law_17 (by decide) ?_
  refine x_newa (ty := .int) hx hb (htg _ ac_int) rfl hK 0 rfl (by simp) hP hD hS hA 40 (k1 := 101) (k2 := 2645) (by decide) (by decide) (by decide) rfl rfl (Nat.le_of_ble_eq_true rfl) (Nat.le_of_ble_eq_true rfl) dL_law_19 (fun a7 H hP hD hS => ?_)
  have hP : va_P (dC, dI) vwCl (((w8 ++ wIA a5 cy 5 (fun _ => 0)) ++ wIA a6 cy 40 (fun _ => 0)) ++ wIA a7 cy 40 (fun _ => 0)) H := hP
  have hD : va_D (lwA s) (((w8 ++ wIA a5 cy 5 (fun _ => 0)) ++ wIA a6 cy 40 (fun _ => 0)) ++ wIA a7 cy 40 (fun _ => 0)) := hD
  refine lv_astore (lv' := [(4, .ref a7), (3, .ref a6), (2, .ref a5), (1, .ref (x 0)), (0, .ref b)]) hx hb dL_law_21 hl (by decide) rfl (fun ls hl => ?_)
  refine lv_iconst (v := 5) hx hb dL_law_23 (by decide) ?_
  refine x_newa (ty := .int) hx hb (htg _ ac_int) rfl hK 0 rfl (by simp) hP hD hS hA 5 (k1 := 102) (k2 := 2650) (by decide) (by decide) (by decide) rfl rfl (Nat.le_of_ble_eq_true rfl) (Nat.le_of_ble_eq_true rfl) dL_law_24 (fun a8 H hP hD hS => ?_)
  have hP : va_P (dC, dI) vwCl ((((w8 ++ wIA a5 cy 5 (fun _ => 0)) ++ wIA a6 cy 40 (fun _ => 0)) ++ wIA a7 cy 40 (fun _ => 0)) ++ wIA a8 cy 5 (fun _ => 0)) H := hP
  have hD : va_D (lwA s) ((((w8 ++ wIA a5 cy 5 (fun _ => 0)) ++ wIA a6 cy 40 (fun _ => 0)) ++ wIA a7 cy 40 (fun _ => 0)) ++ wIA a8 cy 5 (fun _ => 0)) := hD
  refine lv_astore (lv' := [(5, .ref a8), (4, .ref a7), (3, .ref a6), (2, .ref a5), (1, .ref (x 0)), (0, .ref b)]) hx hb dL_law_26 hl (by decide) rfl (fun ls hl => ?_)
  refine lv_bipush (v := 40) hx hb dL_law_28 (by decide) ?_
  refine x_newa (ty := .int) hx hb (htg _ ac_int) rfl hK 0 rfl (by simp) hP hD hS hA 40 (k1 := 103) (k2 := 2690) (by decide) (by decide) (by decide) rfl rfl (Nat.le_of_ble_eq_true rfl) (Nat.le_of_ble_eq_true rfl) dL_law_30 (fun a9 H hP hD hS => ?_)
  have hP : va_P (dC, dI) vwCl (((((w8 ++ wIA a5 cy 5 (fun _ => 0)) ++ wIA a6 cy 40 (fun _ => 0)) ++ wIA a7 cy 40 (fun _ => 0)) ++ wIA a8 cy 5 (fun _ => 0)) ++ wIA a9 cy 40 (fun _ => 0)) H := hP
  have hD : va_D (lwA s) (((((w8 ++ wIA a5 cy 5 (fun _ => 0)) ++ wIA a6 cy 40 (fun _ => 0)) ++ wIA a7 cy 40 (fun _ => 0)) ++ wIA a8 cy 5 (fun _ => 0)) ++ wIA a9 cy 40 (fun _ => 0)) := hD
  refine lv_astore (lv' := [(6, .ref a9), (5, .ref a8), (4, .ref a7), (3, .ref a6), (2, .ref a5), (1, .ref (x 0)), (0, .ref b)]) hx hb dL_law_32 hl (by decide) rfl (fun ls hl => ?_)
  refine lv_bipush (v := 40) hx hb dL_law_34 (by decide) ?_
  refine x_newa (ty := .int) hx hb (htg _ ac_int) rfl hK 0 rfl (by simp) hP hD hS hA 40 (k1 := 104) (k2 := 2730) (by decide) (by decide) (by decide) rfl rfl (Nat.le_of_ble_eq_true rfl) (Nat.le_of_ble_eq_true rfl) dL_law_36 (fun a10 H hP hD hS => ?_)
  have hP : va_P (dC, dI) vwCl ((((((w8 ++ wIA a5 cy 5 (fun _ => 0)) ++ wIA a6 cy 40 (fun _ => 0)) ++ wIA a7 cy 40 (fun _ => 0)) ++ wIA a8 cy 5 (fun _ => 0)) ++ wIA a9 cy 40 (fun _ => 0)) ++ wIA a10 cy 40 (fun _ => 0)) H := hP
  have hD : va_D (lwA s) ((((((w8 ++ wIA a5 cy 5 (fun _ => 0)) ++ wIA a6 cy 40 (fun _ => 0)) ++ wIA a7 cy 40 (fun _ => 0)) ++ wIA a8 cy 5 (fun _ => 0)) ++ wIA a9 cy 40 (fun _ => 0)) ++ wIA a10 cy 40 (fun _ => 0)) := hD
  refine lv_astore (lv' := [(7, .ref a10), (6, .ref a9), (5, .ref a8), (4, .ref a7), (3, .ref a6), (2, .ref a5), (1, .ref (x 0)), (0, .ref b)]) hx hb dL_law_38 hl (by decide) rfl (fun ls hl => ?_)
  have hP := hP.perm (pm_first w8 (wIA a5 cy 5 (fun _ => 0)) (wIA a6 cy 40 (fun _ => 0)) (wIA a7 cy 40 (fun _ => 0)) (wIA a8 cy 5 (fun _ => 0)) (wIA a9 cy 40 (fun _ => 0)) (wIA a10 cy 40 (fun _ => 0)))
  have hD := hD.perm (pm_first w8 (wIA a5 cy 5 (fun _ => 0)) (wIA a6 cy 40 (fun _ => 0)) (wIA a7 cy 40 (fun _ => 0)) (wIA a8 cy 5 (fun _ => 0)) (wIA a9 cy 40 (fun _ => 0)) (wIA a10 cy 40 (fun _ => 0)))
  refine lv_aload_n hx hb dL_law_40 rfl (lv_at hl 5 rfl) ?_
  refine lv_iconst (v := 0) hx hb dL_law_41 (by decide) ?_
  refine lv_iconst (v := 1) hx hb dL_law_42 (by decide) ?_
  refine x_iast (g := (upd (fun _ => 0) 0 1)) hx hb hK hP hD hS 0 0 rfl rfl (show wr 5 (fun _ => 0) 0 1 = some (upd (fun _ => 0) 0 1) from rfl) dL_law_43 (fun H locs hP hD hS => ?_)
  have hP : va_P (dC, dI) vwCl (wIA a5 cy 5 (upd (fun _ => 0) 0 1) ++ (wIA a6 cy 40 (fun _ => 0) ++ (wIA a7 cy 40 (fun _ => 0) ++ (wIA a8 cy 5 (fun _ => 0) ++ (wIA a9 cy 40 (fun _ => 0) ++ (wIA a10 cy 40 (fun _ => 0) ++ w8)))))) H := hP
  have hD : va_D (lwA s) (wIA a5 cy 5 (upd (fun _ => 0) 0 1) ++ (wIA a6 cy 40 (fun _ => 0) ++ (wIA a7 cy 40 (fun _ => 0) ++ (wIA a8 cy 5 (fun _ => 0) ++ (wIA a9 cy 40 (fun _ => 0) ++ (wIA a10 cy 40 (fun _ => 0) ++ w8)))))) := hD
  refine lv_aload_n hx hb dL_law_44 rfl (lv_at hl 5 rfl) ?_
  refine lv_iconst (v := 1) hx hb dL_law_45 (by decide) ?_
  refine lv_iconst (v := 4) hx hb dL_law_46 (by decide) ?_
  refine x_iast (g := (upd (upd (fun _ => 0) 0 1) 1 4)) hx hb hK hP hD hS 0 0 rfl rfl (show wr 5 (upd (fun _ => 0) 0 1) 1 4 = some (upd (upd (fun _ => 0) 0 1) 1 4) from rfl) dL_law_47 (fun H locs hP hD hS => ?_)
  have hP : va_P (dC, dI) vwCl (wIA a5 cy 5 (upd (upd (fun _ => 0) 0 1) 1 4) ++ (wIA a6 cy 40 (fun _ => 0) ++ (wIA a7 cy 40 (fun _ => 0) ++ (wIA a8 cy 5 (fun _ => 0) ++ (wIA a9 cy 40 (fun _ => 0) ++ (wIA a10 cy 40 (fun _ => 0) ++ w8)))))) H := hP
  have hD : va_D (lwA s) (wIA a5 cy 5 (upd (upd (fun _ => 0) 0 1) 1 4) ++ (wIA a6 cy 40 (fun _ => 0) ++ (wIA a7 cy 40 (fun _ => 0) ++ (wIA a8 cy 5 (fun _ => 0) ++ (wIA a9 cy 40 (fun _ => 0) ++ (wIA a10 cy 40 (fun _ => 0) ++ w8)))))) := hD
  refine lv_aload_n hx hb dL_law_48 rfl (lv_at hl 4 rfl) ?_
  refine lv_iconst (v := 1) hx hb dL_law_49 (by decide) ?_
  refine lv_iconst (v := 4) hx hb dL_law_50 (by decide) ?_
  refine x_iast (g := (upd (fun _ => 0) 1 4)) hx hb hK hP hD hS 1 0 rfl rfl (show wr 40 (fun _ => 0) 1 4 = some (upd (fun _ => 0) 1 4) from rfl) dL_law_51 (fun H locs hP hD hS => ?_)
  have hP : va_P (dC, dI) vwCl (wIA a5 cy 5 (upd (upd (fun _ => 0) 0 1) 1 4) ++ (wIA a6 cy 40 (upd (fun _ => 0) 1 4) ++ (wIA a7 cy 40 (fun _ => 0) ++ (wIA a8 cy 5 (fun _ => 0) ++ (wIA a9 cy 40 (fun _ => 0) ++ (wIA a10 cy 40 (fun _ => 0) ++ w8)))))) H := hP
  have hD : va_D (lwA s) (wIA a5 cy 5 (upd (upd (fun _ => 0) 0 1) 1 4) ++ (wIA a6 cy 40 (upd (fun _ => 0) 1 4) ++ (wIA a7 cy 40 (fun _ => 0) ++ (wIA a8 cy 5 (fun _ => 0) ++ (wIA a9 cy 40 (fun _ => 0) ++ (wIA a10 cy 40 (fun _ => 0) ++ w8)))))) := hD
  refine lv_aload_n hx hb dL_law_52 rfl (lv_at hl 4 rfl) ?_
  refine lv_iconst (v := 2) hx hb dL_law_53 (by decide) ?_
  refine lv_iconst (v := 4) hx hb dL_law_54 (by decide) ?_
  refine x_iast (g := (upd (upd (fun _ => 0) 1 4) 2 4)) hx hb hK hP hD hS 1 0 rfl rfl (show wr 40 (upd (fun _ => 0) 1 4) 2 4 = some (upd (upd (fun _ => 0) 1 4) 2 4) from rfl) dL_law_55 (fun H locs hP hD hS => ?_)
  have hP : va_P (dC, dI) vwCl (wIA a5 cy 5 (upd (upd (fun _ => 0) 0 1) 1 4) ++ (wIA a6 cy 40 (upd (upd (fun _ => 0) 1 4) 2 4) ++ (wIA a7 cy 40 (fun _ => 0) ++ (wIA a8 cy 5 (fun _ => 0) ++ (wIA a9 cy 40 (fun _ => 0) ++ (wIA a10 cy 40 (fun _ => 0) ++ w8)))))) H := hP
  have hD : va_D (lwA s) (wIA a5 cy 5 (upd (upd (fun _ => 0) 0 1) 1 4) ++ (wIA a6 cy 40 (upd (upd (fun _ => 0) 1 4) 2 4) ++ (wIA a7 cy 40 (fun _ => 0) ++ (wIA a8 cy 5 (fun _ => 0) ++ (wIA a9 cy 40 (fun _ => 0) ++ (wIA a10 cy 40 (fun _ => 0) ++ w8)))))) := hD
  refine lv_aload hx hb dL_law_56 (lv_at hl 3 rfl) ?_
  refine lv_iconst (v := 2) hx hb dL_law_58 (by decide) ?_
  refine lv_iconst (v := 4) hx hb dL_law_59 (by decide) ?_
  refine x_iast (g := (upd (fun _ => 0) 2 4)) hx hb hK hP hD hS 2 0 rfl rfl (show wr 40 (fun _ => 0) 2 4 = some (upd (fun _ => 0) 2 4) from rfl) dL_law_60 (fun H locs hP hD hS => ?_)
  have hP : va_P (dC, dI) vwCl (wIA a5 cy 5 (upd (upd (fun _ => 0) 0 1) 1 4) ++ (wIA a6 cy 40 (upd (upd (fun _ => 0) 1 4) 2 4) ++ (wIA a7 cy 40 (upd (fun _ => 0) 2 4) ++ (wIA a8 cy 5 (fun _ => 0) ++ (wIA a9 cy 40 (fun _ => 0) ++ (wIA a10 cy 40 (fun _ => 0) ++ w8)))))) H := hP
  have hD : va_D (lwA s) (wIA a5 cy 5 (upd (upd (fun _ => 0) 0 1) 1 4) ++ (wIA a6 cy 40 (upd (upd (fun _ => 0) 1 4) 2 4) ++ (wIA a7 cy 40 (upd (fun _ => 0) 2 4) ++ (wIA a8 cy 5 (fun _ => 0) ++ (wIA a9 cy 40 (fun _ => 0) ++ (wIA a10 cy 40 (fun _ => 0) ++ w8)))))) := hD
  refine lv_aload hx hb dL_law_61 (lv_at hl 3 rfl) ?_
  refine lv_iconst (v := 3) hx hb dL_law_63 (by decide) ?_
  refine lv_iconst (v := 4) hx hb dL_law_64 (by decide) ?_
  refine x_iast (g := (upd (upd (fun _ => 0) 2 4) 3 4)) hx hb hK hP hD hS 2 0 rfl rfl (show wr 40 (upd (fun _ => 0) 2 4) 3 4 = some (upd (upd (fun _ => 0) 2 4) 3 4) from rfl) dL_law_65 (fun H locs hP hD hS => ?_)
  have hP : va_P (dC, dI) vwCl (wIA a5 cy 5 (upd (upd (fun _ => 0) 0 1) 1 4) ++ (wIA a6 cy 40 (upd (upd (fun _ => 0) 1 4) 2 4) ++ (wIA a7 cy 40 (upd (upd (fun _ => 0) 2 4) 3 4) ++ (wIA a8 cy 5 (fun _ => 0) ++ (wIA a9 cy 40 (fun _ => 0) ++ (wIA a10 cy 40 (fun _ => 0) ++ w8)))))) H := hP
  have hD : va_D (lwA s) (wIA a5 cy 5 (upd (upd (fun _ => 0) 0 1) 1 4) ++ (wIA a6 cy 40 (upd (upd (fun _ => 0) 1 4) 2 4) ++ (wIA a7 cy 40 (upd (upd (fun _ => 0) 2 4) 3 4) ++ (wIA a8 cy 5 (fun _ => 0) ++ (wIA a9 cy 40 (fun _ => 0) ++ (wIA a10 cy 40 (fun _ => 0) ++ w8)))))) := hD
  refine lv_iconst (v := 0) hx hb dL_law_66 (by decide) ?_
  refine lv_istore (lv' := [(8, .int 0), (7, .ref a10), (6, .ref a9), (5, .ref a8), (4, .ref a7), (3, .ref a6), (2, .ref a5), (1, .ref (x 0)), (0, .ref b)]) hx hb dL_law_67 hl (by decide) rfl (fun ls hl => ?_)
  rw [ew8] at hP hD
  unfold SPw at hP hD
  have hP := (hP.perm (pm_last _ _ _ _ _ _ _ _ _ _ _ _ _ _ _)).left
  have hD := (hD.perm (pm_last _ _ _ _ _ _ _ _ _ _ _ _ _ _ _)).left
  refine W.eq (g2 := F0 m 69 ls []) rfl ?_
  exact law_walk (x := x) (a5 := a5) (a6 := a6) (a7 := a7) (a8 := a8) (a9 := a9) (a10 := a10) C1 hlt hN hC hE hK 13 104 2730 (by omega) (by omega) figA8 fig0 past0 st5 st6 st7 (fun _ => 0) (fun _ => 0) (fun _ => 0) 0 H locs ls (law_all hL) hP hD hS (lv_sub hl [0, 8, 7, 6, 5, 4, 3, 2, 1] rfl)
