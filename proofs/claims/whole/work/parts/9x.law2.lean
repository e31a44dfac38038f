theorem vp01 : vp_in 0 1 := by unfold vp_in; decide
theorem cw_append : Cond.codeWith yL_append cL_append 4 (some .int) [(0, 9, 12, 13), (0, 9, 15, 15)] ∈ GW := gw_of 426 (by decide +kernel) rfl
abbrev rmL_append : Room := { frames := 7, cells := 1, slots := 6, locals := 103 }
theorem hdL_append : yL_append.cls ≠ "java/lang/invoke/MethodHandle" ∧ yL_append.cls ≠ "java/lang/invoke/VarHandle" ∧ (parseMethodDescriptor yL_append.desc).map (fun d => d.parameters.length) = some 3 := by decide +kernel
set_option maxHeartbeats 4000000 in
set_option maxRecDepth 100000 in
theorem c_L_append (l : Launch) (dC : Nat → ClassId) (dI : Nat → Nat → Nat) (cy : Nat → ClassId) (hlt : l.stackTraces = false) (x : Nat → Nat) (T : TextS) (p1 : Int32) (res : (Sum Nat Int32) × TextS) (h : G_X8_append T p1 = some res) (o : Nat) (g : Nat → Int64) (hk : ∀ k, res.1 = .inl k → k = 2 ∨ k = 3) : LW l (dC, dI) (TY cy) yL_append cL_append 4 [(0, 9, 12, 13), (0, 9, 15, 15)] rmL_append [.ref (x 0), .int p1, .ref o] (wLA o cy g ++ (wSPo x ++ wText (fun j => x (95 + j)) cy T)) (wLA o cy (lo g res.1) ++ (wSPo x ++ wText (fun j => x (95 + j)) cy res.2)) (some (.int (lk 2 res.1))) := by
  refine LW.mk ⟨by decide, rfl⟩ (Nat.le_of_ble_eq_true rfl) ?_
  intro p e s mm args below meth cd A Q hx hb hml hown htab htg hN hK hX0 hNC hA hP hD hS hE ls hl
  have hl : lv_has ls 4 [(0, .ref (x 0)), (1, .int p1), (2, .ref o)] := hl
  obtain ⟨H, hH⟩ : ∃ H, H = s.heap := ⟨_, rfl⟩
  obtain ⟨locs, hlocs⟩ : ∃ locs : List Loc, locs = [] := ⟨_, rfl⟩
  rw [← hlocs] at hS ⊢
  have hS : va_S A s.heap H locs := by rw [hH]; exact hS
  rw [← hH] at hP ⊢
  refine lv_aload_n hx hb dL_append_0 rfl (lv_at hl 2 rfl) ?_
  refine lv_iconst (v := 0) hx hb dL_append_1 (by decide) ?_
  refine lv_aload_n hx hb dL_append_2 rfl (lv_at hl 0 rfl) ?_
  refine lv_iload_n hx hb dL_append_3 rfl (lv_at hl 1 rfl) ?_
  refine cXVp (av := [.int p1]) (rest := [.int 0, .ref o]) (k1 := 1) (k2 := 6) (wn := wLA o cy g ++ (wSPo x ++ wText (fun j => x (95 + j)) cy res.2)) (ci := 3) (q0 := 0) hx hb hml hown htg hN hK hX0 (c_X8_append l dC dI cy hlt x T p1 res h) (g_V gw429 gw430 gw431 gw59 gw432) hdV_X8_append rfl ⟨⟨Nat.le_of_ble_eq_true rfl, Nat.le_of_ble_eq_true rfl⟩, Nat.le_of_ble_eq_true rfl, Nat.le_of_ble_eq_true rfl⟩ hP hD hS hA ⟨rfl, rfl⟩ rfl List.perm_append_comm (List.Perm.refl _) hl.1 rfl (Nat.le_of_ble_eq_true rfl) rfl rfl dL_append_4 (fun H locs ret ho hP hD hS => ?_) (fun H locs k q ce ho hP hD hS h1 h2 h3 => ?_)
  · rcases hres : res.1 with k | v
    · rw [hres] at ho; cases ho
    rw [hres] at ho hE
    obtain rfl := Sum.inr.inj ho
    refine W.eq (g2 := F0 mm 7 ls [.int v, .int 0, .ref o]) rfl ?_
    refine lv_i2l (v := v.toInt64) hx hb dL_append_7 rfl ?_
    refine va_last hx hb hK hP hD hS 0 4 rfl rfl vp01 dL_append_8 (fun H locs hP hD hS => ?_)
    refine lv_goto (tgt := 18) hx hb dL_append_9 (by decide) ?_
    refine lv_iconst (v := 0) hx hb dL_append_18 (by decide) ?_
    exact hE H locs _ _ 19 ls hP hD hS (Nat.le_of_ble_eq_true rfl) (Nat.le_of_ble_eq_true rfl) dL_append_19
  · rcases hres : res.1 with k2 | v
    · have hk2 := hk k2 hres
      rw [hres] at ho hE
      obtain rfl := Sum.inl.inj ho
      rcases hk2 with rfl | rfl
      · skip
        refine vx_catch (own := RL) (name := exn 2) (E := exn 2) hown [] ⟨0, 9, 12, 13⟩ [⟨0, 9, 15, 15⟩] htab (fun z hz => by cases hz) rfl (by decide) (htg (Cond.classLink RL 13 (exn 2)) gw427) (va_Nw.use (XWs_on _ XW2) (hX0.2.2.2 _ XW2)) h1 h2 h3 ?_
        refine lv_astore_n (lv' := [(3, .ref q), (0, .ref (x 0)), (1, .int p1), (2, .ref o)]) hx hb dL_append_12 rfl hl (by decide) rfl (fun ls hl => ?_)
        refine lv_iconst (v := 1) hx hb dL_append_13 (by decide) ?_
        exact hE H locs _ _ 14 ls hP hD hS (Nat.le_of_ble_eq_true rfl) (Nat.le_of_ble_eq_true rfl) dL_append_14
      · skip
        refine vx_catch (own := RL) (name := exn 3) (E := exn 3) hown [⟨0, 9, 12, 13⟩] ⟨0, 9, 15, 15⟩ [] htab (fun z hz => by obtain rfl := List.mem_singleton.mp hz; exact Or.inr ⟨by decide, exn 2, htg (Cond.classLink RL 13 (exn 2)) gw427, hNC 3 2 (by decide) (by decide) (by decide)⟩) rfl (by decide) (htg (Cond.classLink RL 15 (exn 3)) gw428) (va_Nw.use (XWs_on _ XW3) (hX0.2.2.2 _ XW3)) h1 h2 h3 ?_
        refine lv_astore_n (lv' := [(3, .ref q), (0, .ref (x 0)), (1, .int p1), (2, .ref o)]) hx hb dL_append_15 rfl hl (by decide) rfl (fun ls hl => ?_)
        refine lv_iconst (v := 2) hx hb dL_append_16 (by decide) ?_
        exact hE H locs _ _ 17 ls hP hD hS (Nat.le_of_ble_eq_true rfl) (Nat.le_of_ble_eq_true rfl) dL_append_17
    · rw [hres] at ho; cases ho
theorem cw_load : Cond.codeWith yL_load cL_load 3 (some .int) [(0, 8, 11, 15)] ∈ GW := gw_of 524 (by decide +kernel) rfl
abbrev rmL_load : Room := { frames := 7, cells := 1, slots := 6, locals := 159 }
theorem hdL_load : yL_load.cls ≠ "java/lang/invoke/MethodHandle" ∧ yL_load.cls ≠ "java/lang/invoke/VarHandle" ∧ (parseMethodDescriptor yL_load.desc).map (fun d => d.parameters.length) = some 2 := by decide +kernel
set_option maxHeartbeats 4000000 in
set_option maxRecDepth 100000 in
theorem c_L_load (l : Launch) (dC : Nat → ClassId) (dI : Nat → Nat → Nat) (cy : Nat → ClassId) (hlt : l.stackTraces = false) (x : Nat → Nat) (F : Fig) (D : Fig) (P : PastS) (SV : Nat → Int32) (T : TextS) (res : (Sum Nat Int32) × Fig × Fig × PastS × (Nat → Int32)) (h : G_X8_load F D P SV T = some res) (o : Nat) (g : Nat → Int64) (hk : ∀ k, res.1 = .inl k → k = 3) : LW l (dC, dI) (TY cy) yL_load cL_load 3 [(0, 8, 11, 15)] rmL_load [.ref (x 0), .ref o] (wLA o cy g ++ (wSPo x ++ wFig (fun j => x (1 + j)) cy F ++ wFig (fun j => x (6 + j)) cy D ++ wP2 (fun j => x (11 + j)) cy P ++ wBA (x 94) cy SV ++ wText (fun j => x (95 + j)) cy T ++ wPF (fun j => x (11 + j)) cy (p_figs P))) (wLA o cy (lo g res.1) ++ (wSPo x ++ wFig (fun j => x (1 + j)) cy res.2.1 ++ wFig (fun j => x (6 + j)) cy res.2.2.1 ++ wP2 (fun j => x (11 + j)) cy res.2.2.2.1 ++ wBA (x 94) cy res.2.2.2.2 ++ wText (fun j => x (95 + j)) cy T ++ wPF (fun j => x (11 + j)) cy (p_figs res.2.2.2.1))) (some (.int (lk 3 res.1))) := by
  refine LW.mk ⟨by decide, rfl⟩ (Nat.le_of_ble_eq_true rfl) ?_
  intro p e s mm args below meth cd A Q hx hb hml hown htab htg hN hK hX0 hNC hA hP hD hS hE ls hl
  have hl : lv_has ls 3 [(0, .ref (x 0)), (1, .ref o)] := hl
  obtain ⟨H, hH⟩ : ∃ H, H = s.heap := ⟨_, rfl⟩
  obtain ⟨locs, hlocs⟩ : ∃ locs : List Loc, locs = [] := ⟨_, rfl⟩
  rw [← hlocs] at hS ⊢
  have hS : va_S A s.heap H locs := by rw [hH]; exact hS
  rw [← hH] at hP ⊢
  refine lv_aload_n hx hb dL_load_0 rfl (lv_at hl 1 rfl) ?_
  refine lv_iconst (v := 0) hx hb dL_load_1 (by decide) ?_
  refine lv_aload_n hx hb dL_load_2 rfl (lv_at hl 0 rfl) ?_
  refine cXVp (av := []) (rest := [.int 0, .ref o]) (k1 := 1) (k2 := 6) (wn := wLA o cy g ++ (wSPo x ++ wFig (fun j => x (1 + j)) cy res.2.1 ++ wFig (fun j => x (6 + j)) cy res.2.2.1 ++ wP2 (fun j => x (11 + j)) cy res.2.2.2.1 ++ wBA (x 94) cy res.2.2.2.2 ++ wText (fun j => x (95 + j)) cy T ++ wPF (fun j => x (11 + j)) cy (p_figs res.2.2.2.1))) (ci := 3) (q0 := 0) hx hb hml hown htg hN hK hX0 (c_X8_load l dC dI cy hlt x F D P SV T res h) (g_V gw525 gw526 gw527 gw59 gw528) hdV_X8_load rfl ⟨⟨Nat.le_of_ble_eq_true rfl, Nat.le_of_ble_eq_true rfl⟩, Nat.le_of_ble_eq_true rfl, Nat.le_of_ble_eq_true rfl⟩ hP hD hS hA ⟨rfl, rfl⟩ rfl List.perm_append_comm (List.Perm.refl _) hl.1 rfl (Nat.le_of_ble_eq_true rfl) rfl rfl dL_load_3 (fun H locs ret ho hP hD hS => ?_) (fun H locs k q ce ho hP hD hS h1 h2 h3 => ?_)
  · rcases hres : res.1 with k | v
    · rw [hres] at ho; cases ho
    rw [hres] at ho hE
    obtain rfl := Sum.inr.inj ho
    refine W.eq (g2 := F0 mm 6 ls [.int v, .int 0, .ref o]) rfl ?_
    refine lv_i2l (v := v.toInt64) hx hb dL_load_6 rfl ?_
    refine va_last hx hb hK hP hD hS 0 4 rfl rfl vp01 dL_load_7 (fun H locs hP hD hS => ?_)
    refine lv_goto (tgt := 14) hx hb dL_load_8 (by decide) ?_
    refine lv_iconst (v := 0) hx hb dL_load_14 (by decide) ?_
    exact hE H locs _ _ 15 ls hP hD hS (Nat.le_of_ble_eq_true rfl) (Nat.le_of_ble_eq_true rfl) dL_load_15
  · rcases hres : res.1 with k2 | v
    · have hk2 := hk k2 hres
      rw [hres] at ho hE
      obtain rfl := Sum.inl.inj ho
      subst hk2
      refine vx_catch (own := RL) (name := exn 3) (E := exn 3) hown [] ⟨0, 8, 11, 15⟩ [] htab (fun z hz => by cases hz) rfl (by decide) (htg (Cond.classLink RL 15 (exn 3)) gw428) (va_Nw.use (XWs_on _ XW3) (hX0.2.2.2 _ XW3)) h1 h2 h3 ?_
      refine lv_astore_n (lv' := [(2, .ref q), (0, .ref (x 0)), (1, .ref o)]) hx hb dL_load_11 rfl hl (by decide) rfl (fun ls hl => ?_)
      refine lv_iconst (v := 1) hx hb dL_load_12 (by decide) ?_
      exact hE H locs _ _ 13 ls hP hD hS (Nat.le_of_ble_eq_true rfl) (Nat.le_of_ble_eq_true rfl) dL_load_13
    · rw [hres] at ho; cases ho
theorem cw_about : Cond.codeWith yL_about cL_about 4 (some .int) [(0, 9, 12, 13)] ∈ GW := gw_of 536 (by decide +kernel) rfl
abbrev rmL_about : Room := { frames := 7, cells := 1, slots := 6, locals := 165 }
theorem hdL_about : yL_about.cls ≠ "java/lang/invoke/MethodHandle" ∧ yL_about.cls ≠ "java/lang/invoke/VarHandle" ∧ (parseMethodDescriptor yL_about.desc).map (fun d => d.parameters.length) = some 3 := by decide +kernel
set_option maxHeartbeats 4000000 in
set_option maxRecDepth 100000 in
theorem c_L_about (l : Launch) (dC : Nat → ClassId) (dI : Nat → Nat → Nat) (cy : Nat → ClassId) (hlt : l.stackTraces = false) (x : Nat → Nat) (F : Fig) (p1 : Int32) (res : (Sum Nat Int32)) (h : G_X8_about F p1 = some res) (o : Nat) (g : Nat → Int64) (hk : ∀ k, res = .inl k → k = 2) : LW l (dC, dI) (TY cy) yL_about cL_about 4 [(0, 9, 12, 13)] rmL_about [.ref (x 0), .int p1, .ref o] (wLA o cy g ++ (wSPo x ++ wFig (fun j => x (1 + j)) cy F)) (wLA o cy (lo g res) ++ (wSPo x ++ wFig (fun j => x (1 + j)) cy F)) (some (.int (lk 2 res))) := by
  refine LW.mk ⟨by decide, rfl⟩ (Nat.le_of_ble_eq_true rfl) ?_
  intro p e s mm args below meth cd A Q hx hb hml hown htab htg hN hK hX0 hNC hA hP hD hS hE ls hl
  have hl : lv_has ls 4 [(0, .ref (x 0)), (1, .int p1), (2, .ref o)] := hl
  obtain ⟨H, hH⟩ : ∃ H, H = s.heap := ⟨_, rfl⟩
  obtain ⟨locs, hlocs⟩ : ∃ locs : List Loc, locs = [] := ⟨_, rfl⟩
  rw [← hlocs] at hS ⊢
  have hS : va_S A s.heap H locs := by rw [hH]; exact hS
  rw [← hH] at hP ⊢
  refine lv_aload_n hx hb dL_about_0 rfl (lv_at hl 2 rfl) ?_
  refine lv_iconst (v := 0) hx hb dL_about_1 (by decide) ?_
  refine lv_aload_n hx hb dL_about_2 rfl (lv_at hl 0 rfl) ?_
  refine lv_iload_n hx hb dL_about_3 rfl (lv_at hl 1 rfl) ?_
  refine cXVp (av := [.int p1]) (rest := [.int 0, .ref o]) (k1 := 1) (k2 := 6) (wn := wLA o cy g ++ (wSPo x ++ wFig (fun j => x (1 + j)) cy F)) (ci := 3) (q0 := 0) hx hb hml hown htg hN hK hX0 (c_X8_about l dC dI cy hlt x F p1 res h) (g_V gw537 gw538 gw539 gw59 gw540) hdV_X8_about rfl ⟨⟨Nat.le_of_ble_eq_true rfl, Nat.le_of_ble_eq_true rfl⟩, Nat.le_of_ble_eq_true rfl, Nat.le_of_ble_eq_true rfl⟩ hP hD hS hA ⟨rfl, rfl⟩ rfl List.perm_append_comm (List.Perm.refl _) hl.1 rfl (Nat.le_of_ble_eq_true rfl) rfl rfl dL_about_4 (fun H locs ret ho hP hD hS => ?_) (fun H locs k q ce ho hP hD hS h1 h2 h3 => ?_)
  · rcases hres : res with k | v
    · rw [hres] at ho; cases ho
    rw [hres] at ho hE
    obtain rfl := Sum.inr.inj ho
    refine W.eq (g2 := F0 mm 7 ls [.int v, .int 0, .ref o]) rfl ?_
    refine lv_i2l (v := v.toInt64) hx hb dL_about_7 rfl ?_
    refine va_last hx hb hK hP hD hS 0 4 rfl rfl vp01 dL_about_8 (fun H locs hP hD hS => ?_)
    refine lv_goto (tgt := 15) hx hb dL_about_9 (by decide) ?_
    refine lv_iconst (v := 0) hx hb dL_about_15 (by decide) ?_
    exact hE H locs _ _ 16 ls hP hD hS (Nat.le_of_ble_eq_true rfl) (Nat.le_of_ble_eq_true rfl) dL_about_16
  · rcases hres : res with k2 | v
    · have hk2 := hk k2 hres
      rw [hres] at ho hE
      obtain rfl := Sum.inl.inj ho
      subst hk2
      refine vx_catch (own := RL) (name := exn 2) (E := exn 2) hown [] ⟨0, 9, 12, 13⟩ [] htab (fun z hz => by cases hz) rfl (by decide) (htg (Cond.classLink RL 13 (exn 2)) gw427) (va_Nw.use (XWs_on _ XW2) (hX0.2.2.2 _ XW2)) h1 h2 h3 ?_
      refine lv_astore_n (lv' := [(3, .ref q), (0, .ref (x 0)), (1, .int p1), (2, .ref o)]) hx hb dL_about_12 rfl hl (by decide) rfl (fun ls hl => ?_)
      refine lv_iconst (v := 1) hx hb dL_about_13 (by decide) ?_
      exact hE H locs _ _ 14 ls hP hD hS (Nat.le_of_ble_eq_true rfl) (Nat.le_of_ble_eq_true rfl) dL_about_14
    · rw [hres] at ho; cases ho
theorem cw_ring : Cond.codeWith yL_ring cL_ring 5 (some .int) [(0, 10, 13, 28), (0, 10, 17, 13)] ∈ GW := gw_of 576 (by decide +kernel) rfl
abbrev rmL_ring : Room := { frames := 8, cells := 2, slots := 12, locals := 125 }
theorem hdL_ring : yL_ring.cls ≠ "java/lang/invoke/MethodHandle" ∧ yL_ring.cls ≠ "java/lang/invoke/VarHandle" ∧ (parseMethodDescriptor yL_ring.desc).map (fun d => d.parameters.length) = some 4 := by decide +kernel
set_option maxHeartbeats 4000000 in
set_option maxRecDepth 100000 in
theorem c_L_ring (l : Launch) (dC : Nat → ClassId) (dI : Nat → Nat → Nat) (cy : Nat → ClassId) (hlt : l.stackTraces = false) (x : Nat → Nat) (F : Fig) (p1 : Int32) (p2 : Int32) (res : (Sum Nat Int32)) (h : G_X8_ring F p1 p2 = some res) (o : Nat) (g : Nat → Int64) (hk : ∀ k, res = .inl k → k = 1 ∨ k = 2) : LW l (dC, dI) (TY cy) yL_ring cL_ring 5 [(0, 10, 13, 28), (0, 10, 17, 13)] rmL_ring [.ref (x 0), .int p1, .int p2, .ref o] (wLA o cy g ++ (wSPo x ++ wFig (fun j => x (1 + j)) cy F)) (wLA o cy (lo g res) ++ (wSPo x ++ wFig (fun j => x (1 + j)) cy F)) (some (.int (lk 1 res))) := by
  refine LW.mk ⟨by decide, rfl⟩ (Nat.le_of_ble_eq_true rfl) ?_
  intro p e s mm args below meth cd A Q hx hb hml hown htab htg hN hK hX0 hNC hA hP hD hS hE ls hl
  have hl : lv_has ls 5 [(0, .ref (x 0)), (1, .int p1), (2, .int p2), (3, .ref o)] := hl
  obtain ⟨H, hH⟩ : ∃ H, H = s.heap := ⟨_, rfl⟩
  obtain ⟨locs, hlocs⟩ : ∃ locs : List Loc, locs = [] := ⟨_, rfl⟩
  rw [← hlocs] at hS ⊢
  have hS : va_S A s.heap H locs := by rw [hH]; exact hS
  rw [← hH] at hP ⊢
  refine lv_aload_n hx hb dL_ring_0 rfl (lv_at hl 3 rfl) ?_
  refine lv_iconst (v := 0) hx hb dL_ring_1 (by decide) ?_
  refine lv_aload_n hx hb dL_ring_2 rfl (lv_at hl 0 rfl) ?_
  refine lv_iload_n hx hb dL_ring_3 rfl (lv_at hl 1 rfl) ?_
  refine lv_iload_n hx hb dL_ring_4 rfl (lv_at hl 2 rfl) ?_
  refine cXVp (av := [.int p1, .int p2]) (rest := [.int 0, .ref o]) (k1 := 2) (k2 := 12) (wn := wLA o cy g ++ (wSPo x ++ wFig (fun j => x (1 + j)) cy F)) (ci := 3) (q0 := 0) hx hb hml hown htg hN hK hX0 (c_X8_ring l dC dI cy hlt x F p1 p2 res h) (g_V gw578 gw579 gw580 gw59 gw581) hdV_X8_ring rfl ⟨⟨Nat.le_of_ble_eq_true rfl, Nat.le_of_ble_eq_true rfl⟩, Nat.le_of_ble_eq_true rfl, Nat.le_of_ble_eq_true rfl⟩ hP hD hS hA ⟨rfl, rfl⟩ rfl List.perm_append_comm (List.Perm.refl _) hl.1 rfl (Nat.le_of_ble_eq_true rfl) rfl rfl dL_ring_5 (fun H locs ret ho hP hD hS => ?_) (fun H locs k q ce ho hP hD hS h1 h2 h3 => ?_)
  · rcases hres : res with k | v
    · rw [hres] at ho; cases ho
    rw [hres] at ho hE
    obtain rfl := Sum.inr.inj ho
    refine W.eq (g2 := F0 mm 8 ls [.int v, .int 0, .ref o]) rfl ?_
    refine lv_i2l (v := v.toInt64) hx hb dL_ring_8 rfl ?_
    refine va_last hx hb hK hP hD hS 0 4 rfl rfl vp01 dL_ring_9 (fun H locs hP hD hS => ?_)
    refine lv_goto (tgt := 21) hx hb dL_ring_10 (by decide) ?_
    refine lv_iconst (v := 0) hx hb dL_ring_21 (by decide) ?_
    exact hE H locs _ _ 22 ls hP hD hS (Nat.le_of_ble_eq_true rfl) (Nat.le_of_ble_eq_true rfl) dL_ring_22
  · rcases hres : res with k2 | v
    · have hk2 := hk k2 hres
      rw [hres] at ho hE
      obtain rfl := Sum.inl.inj ho
      rcases hk2 with rfl | rfl
      · skip
        refine vx_catch (own := RL) (name := exn 1) (E := exn 1) hown [] ⟨0, 10, 13, 28⟩ [⟨0, 10, 17, 13⟩] htab (fun z hz => by cases hz) rfl (by decide) (htg (Cond.classLink RL 28 (exn 1)) gw577) (va_Nw.use (XWs_on _ XW1) (hX0.2.2.2 _ XW1)) h1 h2 h3 ?_
        refine lv_astore (lv' := [(4, .ref q), (0, .ref (x 0)), (1, .int p1), (2, .int p2), (3, .ref o)]) hx hb dL_ring_13 hl (by decide) rfl (fun ls hl => ?_)
        refine lv_iconst (v := 1) hx hb dL_ring_15 (by decide) ?_
        exact hE H locs _ _ 16 ls hP hD hS (Nat.le_of_ble_eq_true rfl) (Nat.le_of_ble_eq_true rfl) dL_ring_16
      · skip
        refine vx_catch (own := RL) (name := exn 2) (E := exn 2) hown [⟨0, 10, 13, 28⟩] ⟨0, 10, 17, 13⟩ [] htab (fun z hz => by obtain rfl := List.mem_singleton.mp hz; exact Or.inr ⟨by decide, exn 1, htg (Cond.classLink RL 28 (exn 1)) gw577, hNC 2 1 (by decide) (by decide) (by decide)⟩) rfl (by decide) (htg (Cond.classLink RL 13 (exn 2)) gw427) (va_Nw.use (XWs_on _ XW2) (hX0.2.2.2 _ XW2)) h1 h2 h3 ?_
        refine lv_astore (lv' := [(4, .ref q), (0, .ref (x 0)), (1, .int p1), (2, .int p2), (3, .ref o)]) hx hb dL_ring_17 hl (by decide) rfl (fun ls hl => ?_)
        refine lv_iconst (v := 2) hx hb dL_ring_19 (by decide) ?_
        exact hE H locs _ _ 20 ls hP hD hS (Nat.le_of_ble_eq_true rfl) (Nat.le_of_ble_eq_true rfl) dL_ring_20
    · rw [hres] at ho; cases ho
theorem cw_corner : Cond.codeWith yL_corner cL_corner 6 (some .int) [(0, 12, 15, 28), (0, 12, 19, 13)] ∈ GW := gw_of 615 (by decide +kernel) rfl
abbrev rmL_corner : Room := { frames := 8, cells := 2, slots := 12, locals := 148 }
theorem hdL_corner : yL_corner.cls ≠ "java/lang/invoke/MethodHandle" ∧ yL_corner.cls ≠ "java/lang/invoke/VarHandle" ∧ (parseMethodDescriptor yL_corner.desc).map (fun d => d.parameters.length) = some 5 := by decide +kernel
set_option maxHeartbeats 4000000 in
set_option maxRecDepth 100000 in
theorem c_L_corner (l : Launch) (dC : Nat → ClassId) (dI : Nat → Nat → Nat) (cy : Nat → ClassId) (hlt : l.stackTraces = false) (x : Nat → Nat) (F : Fig) (p1 : Int32) (p2 : Int32) (p3 : Int32) (res : (Sum Nat Int32)) (h : G_X8_corner F p1 p2 p3 = some res) (o : Nat) (g : Nat → Int64) (hk : ∀ k, res = .inl k → k = 1 ∨ k = 2) : LW l (dC, dI) (TY cy) yL_corner cL_corner 6 [(0, 12, 15, 28), (0, 12, 19, 13)] rmL_corner [.ref (x 0), .int p1, .int p2, .int p3, .ref o] (wLA o cy g ++ (wSPo x ++ wFig (fun j => x (1 + j)) cy F)) (wLA o cy (lo g res) ++ (wSPo x ++ wFig (fun j => x (1 + j)) cy F)) (some (.int (lk 1 res))) := by
  refine LW.mk ⟨by decide, rfl⟩ (Nat.le_of_ble_eq_true rfl) ?_
  intro p e s mm args below meth cd A Q hx hb hml hown htab htg hN hK hX0 hNC hA hP hD hS hE ls hl
  have hl : lv_has ls 6 [(0, .ref (x 0)), (1, .int p1), (2, .int p2), (3, .int p3), (4, .ref o)] := hl
  obtain ⟨H, hH⟩ : ∃ H, H = s.heap := ⟨_, rfl⟩
  obtain ⟨locs, hlocs⟩ : ∃ locs : List Loc, locs = [] := ⟨_, rfl⟩
  rw [← hlocs] at hS ⊢
  have hS : va_S A s.heap H locs := by rw [hH]; exact hS
  rw [← hH] at hP ⊢
  refine lv_aload hx hb dL_corner_0 (lv_at hl 4 rfl) ?_
  refine lv_iconst (v := 0) hx hb dL_corner_2 (by decide) ?_
  refine lv_aload_n hx hb dL_corner_3 rfl (lv_at hl 0 rfl) ?_
  refine lv_iload_n hx hb dL_corner_4 rfl (lv_at hl 1 rfl) ?_
  refine lv_iload_n hx hb dL_corner_5 rfl (lv_at hl 2 rfl) ?_
  refine lv_iload_n hx hb dL_corner_6 rfl (lv_at hl 3 rfl) ?_
  refine cXVp (av := [.int p1, .int p2, .int p3]) (rest := [.int 0, .ref o]) (k1 := 2) (k2 := 12) (wn := wLA o cy g ++ (wSPo x ++ wFig (fun j => x (1 + j)) cy F)) (ci := 3) (q0 := 0) hx hb hml hown htg hN hK hX0 (c_X8_corner l dC dI cy hlt x F p1 p2 p3 res h) (g_V gw616 gw617 gw618 gw59 gw619) hdV_X8_corner rfl ⟨⟨Nat.le_of_ble_eq_true rfl, Nat.le_of_ble_eq_true rfl⟩, Nat.le_of_ble_eq_true rfl, Nat.le_of_ble_eq_true rfl⟩ hP hD hS hA ⟨rfl, rfl⟩ rfl List.perm_append_comm (List.Perm.refl _) hl.1 rfl (Nat.le_of_ble_eq_true rfl) rfl rfl dL_corner_7 (fun H locs ret ho hP hD hS => ?_) (fun H locs k q ce ho hP hD hS h1 h2 h3 => ?_)
  · rcases hres : res with k | v
    · rw [hres] at ho; cases ho
    rw [hres] at ho hE
    obtain rfl := Sum.inr.inj ho
    refine W.eq (g2 := F0 mm 10 ls [.int v, .int 0, .ref o]) rfl ?_
    refine lv_i2l (v := v.toInt64) hx hb dL_corner_10 rfl ?_
    refine va_last hx hb hK hP hD hS 0 4 rfl rfl vp01 dL_corner_11 (fun H locs hP hD hS => ?_)
    refine lv_goto (tgt := 23) hx hb dL_corner_12 (by decide) ?_
    refine lv_iconst (v := 0) hx hb dL_corner_23 (by decide) ?_
    exact hE H locs _ _ 24 ls hP hD hS (Nat.le_of_ble_eq_true rfl) (Nat.le_of_ble_eq_true rfl) dL_corner_24
  · rcases hres : res with k2 | v
    · have hk2 := hk k2 hres
      rw [hres] at ho hE
      obtain rfl := Sum.inl.inj ho
      rcases hk2 with rfl | rfl
      · skip
        refine vx_catch (own := RL) (name := exn 1) (E := exn 1) hown [] ⟨0, 12, 15, 28⟩ [⟨0, 12, 19, 13⟩] htab (fun z hz => by cases hz) rfl (by decide) (htg (Cond.classLink RL 28 (exn 1)) gw577) (va_Nw.use (XWs_on _ XW1) (hX0.2.2.2 _ XW1)) h1 h2 h3 ?_
        refine lv_astore (lv' := [(5, .ref q), (0, .ref (x 0)), (1, .int p1), (2, .int p2), (3, .int p3), (4, .ref o)]) hx hb dL_corner_15 hl (by decide) rfl (fun ls hl => ?_)
        refine lv_iconst (v := 1) hx hb dL_corner_17 (by decide) ?_
        exact hE H locs _ _ 18 ls hP hD hS (Nat.le_of_ble_eq_true rfl) (Nat.le_of_ble_eq_true rfl) dL_corner_18
      · skip
        refine vx_catch (own := RL) (name := exn 2) (E := exn 2) hown [⟨0, 12, 15, 28⟩] ⟨0, 12, 19, 13⟩ [] htab (fun z hz => by obtain rfl := List.mem_singleton.mp hz; exact Or.inr ⟨by decide, exn 1, htg (Cond.classLink RL 28 (exn 1)) gw577, hNC 2 1 (by decide) (by decide) (by decide)⟩) rfl (by decide) (htg (Cond.classLink RL 13 (exn 2)) gw427) (va_Nw.use (XWs_on _ XW2) (hX0.2.2.2 _ XW2)) h1 h2 h3 ?_
        refine lv_astore (lv' := [(5, .ref q), (0, .ref (x 0)), (1, .int p1), (2, .int p2), (3, .int p3), (4, .ref o)]) hx hb dL_corner_19 hl (by decide) rfl (fun ls hl => ?_)
        refine lv_iconst (v := 2) hx hb dL_corner_21 (by decide) ?_
        exact hE H locs _ _ 22 ls hP hD hS (Nat.le_of_ble_eq_true rfl) (Nat.le_of_ble_eq_true rfl) dL_corner_22
    · rw [hres] at ho; cases ho
theorem cw_point : Cond.codeWith yL_point cL_point 5 (some .int) [(0, 10, 13, 13)] ∈ GW := gw_of 638 (by decide +kernel) rfl
abbrev rmL_point : Room := { frames := 7, cells := 1, slots := 6, locals := 122 }
theorem hdL_point : yL_point.cls ≠ "java/lang/invoke/MethodHandle" ∧ yL_point.cls ≠ "java/lang/invoke/VarHandle" ∧ (parseMethodDescriptor yL_point.desc).map (fun d => d.parameters.length) = some 4 := by decide +kernel
set_option maxHeartbeats 4000000 in
set_option maxRecDepth 100000 in
theorem c_L_point (l : Launch) (dC : Nat → ClassId) (dI : Nat → Nat → Nat) (cy : Nat → ClassId) (hlt : l.stackTraces = false) (x : Nat → Nat) (F : Fig) (p1 : Int32) (p2 : Int32) (res : (Sum Nat Int32)) (h : G_X8_point F p1 p2 = some res) (o : Nat) (g : Nat → Int64) (hk : ∀ k, res = .inl k → k = 2) : LW l (dC, dI) (TY cy) yL_point cL_point 5 [(0, 10, 13, 13)] rmL_point [.ref (x 0), .int p1, .int p2, .ref o] (wLA o cy g ++ (wSPo x ++ wFig (fun j => x (1 + j)) cy F)) (wLA o cy (lo g res) ++ (wSPo x ++ wFig (fun j => x (1 + j)) cy F)) (some (.int (lk 2 res))) := by
  refine LW.mk ⟨by decide, rfl⟩ (Nat.le_of_ble_eq_true rfl) ?_
  intro p e s mm args below meth cd A Q hx hb hml hown htab htg hN hK hX0 hNC hA hP hD hS hE ls hl
  have hl : lv_has ls 5 [(0, .ref (x 0)), (1, .int p1), (2, .int p2), (3, .ref o)] := hl
  obtain ⟨H, hH⟩ : ∃ H, H = s.heap := ⟨_, rfl⟩
  obtain ⟨locs, hlocs⟩ : ∃ locs : List Loc, locs = [] := ⟨_, rfl⟩
  rw [← hlocs] at hS ⊢
  have hS : va_S A s.heap H locs := by rw [hH]; exact hS
  rw [← hH] at hP ⊢
  refine lv_aload_n hx hb dL_point_0 rfl (lv_at hl 3 rfl) ?_
  refine lv_iconst (v := 0) hx hb dL_point_1 (by decide) ?_
  refine lv_aload_n hx hb dL_point_2 rfl (lv_at hl 0 rfl) ?_
  refine lv_iload_n hx hb dL_point_3 rfl (lv_at hl 1 rfl) ?_
  refine lv_iload_n hx hb dL_point_4 rfl (lv_at hl 2 rfl) ?_
  refine cXVp (av := [.int p1, .int p2]) (rest := [.int 0, .ref o]) (k1 := 1) (k2 := 6) (wn := wLA o cy g ++ (wSPo x ++ wFig (fun j => x (1 + j)) cy F)) (ci := 3) (q0 := 0) hx hb hml hown htg hN hK hX0 (c_X8_point l dC dI cy hlt x F p1 p2 res h) (g_V gw639 gw640 gw641 gw59 gw642) hdV_X8_point rfl ⟨⟨Nat.le_of_ble_eq_true rfl, Nat.le_of_ble_eq_true rfl⟩, Nat.le_of_ble_eq_true rfl, Nat.le_of_ble_eq_true rfl⟩ hP hD hS hA ⟨rfl, rfl⟩ rfl List.perm_append_comm (List.Perm.refl _) hl.1 rfl (Nat.le_of_ble_eq_true rfl) rfl rfl dL_point_5 (fun H locs ret ho hP hD hS => ?_) (fun H locs k q ce ho hP hD hS h1 h2 h3 => ?_)
  · rcases hres : res with k | v
    · rw [hres] at ho; cases ho
    rw [hres] at ho hE
    obtain rfl := Sum.inr.inj ho
    refine W.eq (g2 := F0 mm 8 ls [.int v, .int 0, .ref o]) rfl ?_
    refine lv_i2l (v := v.toInt64) hx hb dL_point_8 rfl ?_
    refine va_last hx hb hK hP hD hS 0 4 rfl rfl vp01 dL_point_9 (fun H locs hP hD hS => ?_)
    refine lv_goto (tgt := 17) hx hb dL_point_10 (by decide) ?_
    refine lv_iconst (v := 0) hx hb dL_point_17 (by decide) ?_
    exact hE H locs _ _ 18 ls hP hD hS (Nat.le_of_ble_eq_true rfl) (Nat.le_of_ble_eq_true rfl) dL_point_18
  · rcases hres : res with k2 | v
    · have hk2 := hk k2 hres
      rw [hres] at ho hE
      obtain rfl := Sum.inl.inj ho
      subst hk2
      refine vx_catch (own := RL) (name := exn 2) (E := exn 2) hown [] ⟨0, 10, 13, 13⟩ [] htab (fun z hz => by cases hz) rfl (by decide) (htg (Cond.classLink RL 13 (exn 2)) gw427) (va_Nw.use (XWs_on _ XW2) (hX0.2.2.2 _ XW2)) h1 h2 h3 ?_
      refine lv_astore (lv' := [(4, .ref q), (0, .ref (x 0)), (1, .int p1), (2, .int p2), (3, .ref o)]) hx hb dL_point_13 hl (by decide) rfl (fun ls hl => ?_)
      refine lv_iconst (v := 1) hx hb dL_point_15 (by decide) ?_
      exact hE H locs _ _ 16 ls hP hD hS (Nat.le_of_ble_eq_true rfl) (Nat.le_of_ble_eq_true rfl) dL_point_16
    · rw [hres] at ho; cases ho
theorem cw_sees : Cond.codeWith yL_sees cL_sees 7 (some .int) [(0, 21, 24, 28)] ∈ GW := gw_of 651 (by decide +kernel) rfl
abbrev rmL_sees : Room := { frames := 8, cells := 2, slots := 12, locals := 128 }
theorem hdL_sees : yL_sees.cls ≠ "java/lang/invoke/MethodHandle" ∧ yL_sees.cls ≠ "java/lang/invoke/VarHandle" ∧ (parseMethodDescriptor yL_sees.desc).map (fun d => d.parameters.length) = some 6 := by decide +kernel
set_option maxHeartbeats 4000000 in
set_option maxRecDepth 100000 in
theorem c_L_sees (l : Launch) (dC : Nat → ClassId) (dI : Nat → Nat → Nat) (cy : Nat → ClassId) (hlt : l.stackTraces = false) (x : Nat → Nat) (F : Fig) (p1 : Int32) (p2 : Int32) (p3 : Int32) (p4 : Int32) (res : (Sum Nat Int32)) (h : G_X8_sees F p1 p2 p3 p4 = some res) (o : Nat) (g : Nat → Int64) (hk : ∀ k, res = .inl k → k = 1) : LW l (dC, dI) (TY cy) yL_sees cL_sees 7 [(0, 21, 24, 28)] rmL_sees [.ref (x 0), .int p1, .int p2, .int p3, .int p4, .ref o] (wLA o cy g ++ (wSPo x ++ wFig (fun j => x (1 + j)) cy F)) (wLA o cy (loS g res) ++ (wSPo x ++ wFig (fun j => x (1 + j)) cy F)) (some (.int (lk 1 res))) := by
  refine LW.mk ⟨by decide, rfl⟩ (Nat.le_of_ble_eq_true rfl) ?_
  intro p e s mm args below meth cd A Q hx hb hml hown htab htg hN hK hX0 hNC hA hP hD hS hE ls hl
  have hl : lv_has ls 7 [(0, .ref (x 0)), (1, .int p1), (2, .int p2), (3, .int p3), (4, .int p4), (5, .ref o)] := hl
  obtain ⟨H, hH⟩ : ∃ H, H = s.heap := ⟨_, rfl⟩
  obtain ⟨locs, hlocs⟩ : ∃ locs : List Loc, locs = [] := ⟨_, rfl⟩
  rw [← hlocs] at hS ⊢
  have hS : va_S A s.heap H locs := by rw [hH]; exact hS
  rw [← hH] at hP ⊢
  refine lv_aload hx hb dL_sees_0 (lv_at hl 5 rfl) ?_
  refine lv_iconst (v := 0) hx hb dL_sees_2 (by decide) ?_
  refine lv_aload_n hx hb dL_sees_3 rfl (lv_at hl 0 rfl) ?_
  refine lv_iload_n hx hb dL_sees_4 rfl (lv_at hl 1 rfl) ?_
  refine lv_iload_n hx hb dL_sees_5 rfl (lv_at hl 2 rfl) ?_
  refine lv_iload_n hx hb dL_sees_6 rfl (lv_at hl 3 rfl) ?_
  refine lv_iload hx hb dL_sees_7 (lv_at hl 4 rfl) ?_
  refine cXVp (av := [.int p1, .int p2, .int p3, .int p4]) (rest := [.int 0, .ref o]) (k1 := 2) (k2 := 12) (wn := wLA o cy g ++ (wSPo x ++ wFig (fun j => x (1 + j)) cy F)) (ci := 3) (q0 := 0) hx hb hml hown htg hN hK hX0 (c_X8_sees l dC dI cy hlt x F p1 p2 p3 p4 res h) (g_V gw652 gw653 gw654 gw59 gw655) hdV_X8_sees rfl ⟨⟨Nat.le_of_ble_eq_true rfl, Nat.le_of_ble_eq_true rfl⟩, Nat.le_of_ble_eq_true rfl, Nat.le_of_ble_eq_true rfl⟩ hP hD hS hA ⟨rfl, rfl⟩ rfl List.perm_append_comm (List.Perm.refl _) hl.1 rfl (Nat.le_of_ble_eq_true rfl) rfl rfl dL_sees_9 (fun H locs ret ho hP hD hS => ?_) (fun H locs k q ce ho hP hD hS h1 h2 h3 => ?_)
  · rcases hres : res with k | v
    · rw [hres] at ho; cases ho
    rw [hres] at ho hE
    obtain rfl := Sum.inr.inj ho
    refine W.eq (g2 := F0 mm 12 ls [.int v, .int 0, .ref o]) rfl ?_
    refine lv_if_eq (tgt := 19) hx hb dL_sees_12 (by decide) (fun c => ?_) (fun c => ?_)
    · skip
      refine lv_lconst (v := 0) hx hb dL_sees_19 (by decide) ?_
      refine va_last hx hb hK hP hD hS 0 4 rfl rfl vp01 dL_sees_20 (fun H locs hP hD hS => ?_)
      refine lv_goto (tgt := 28) hx hb dL_sees_21 (by decide) ?_
      refine lv_iconst (v := 0) hx hb dL_sees_28 (by decide) ?_
      have e : loS g (.inr v) = vp_updL g (0 : Int32).toNatClampNeg 0 := by
        unfold loS
        dsimp only
        rw [if_pos c]
      rw [e] at hE
      exact hE H locs _ _ 29 ls hP hD hS (Nat.le_of_ble_eq_true rfl) (Nat.le_of_ble_eq_true rfl) dL_sees_29
    · skip
      refine lv_lconst (v := 1) hx hb dL_sees_15 (by decide) ?_
      refine lv_goto (tgt := 20) hx hb dL_sees_16 (by decide) ?_
      refine va_last hx hb hK hP hD hS 0 4 rfl rfl vp01 dL_sees_20 (fun H locs hP hD hS => ?_)
      refine lv_goto (tgt := 28) hx hb dL_sees_21 (by decide) ?_
      refine lv_iconst (v := 0) hx hb dL_sees_28 (by decide) ?_
      have e : loS g (.inr v) = vp_updL g (0 : Int32).toNatClampNeg 1 := by
        unfold loS
        dsimp only
        rw [if_neg c]
      rw [e] at hE
      exact hE H locs _ _ 29 ls hP hD hS (Nat.le_of_ble_eq_true rfl) (Nat.le_of_ble_eq_true rfl) dL_sees_29
  · rcases hres : res with k2 | v
    · have hk2 := hk k2 hres
      rw [hres] at ho hE
      obtain rfl := Sum.inl.inj ho
      subst hk2
      refine vx_catch (own := RL) (name := exn 1) (E := exn 1) hown [] ⟨0, 21, 24, 28⟩ [] htab (fun z hz => by cases hz) rfl (by decide) (htg (Cond.classLink RL 28 (exn 1)) gw577) (va_Nw.use (XWs_on _ XW1) (hX0.2.2.2 _ XW1)) h1 h2 h3 ?_
      refine lv_astore (lv' := [(6, .ref q), (0, .ref (x 0)), (1, .int p1), (2, .int p2), (3, .int p3), (4, .int p4), (5, .ref o)]) hx hb dL_sees_24 hl (by decide) rfl (fun ls hl => ?_)
      refine lv_iconst (v := 1) hx hb dL_sees_26 (by decide) ?_
      exact hE H locs _ _ 27 ls hP hD hS (Nat.le_of_ble_eq_true rfl) (Nat.le_of_ble_eq_true rfl) dL_sees_27
    · rw [hres] at ho; cases ho
theorem cw_move : Cond.codeWith yL_move cL_move 7 (some .int) [(0, 14, 17, 28), (0, 14, 21, 15)] ∈ GW := gw_of 659 (by decide +kernel) rfl
abbrev rmL_move : Room := { frames := 8, cells := 2, slots := 12, locals := 162 }
theorem hdL_move : yL_move.cls ≠ "java/lang/invoke/MethodHandle" ∧ yL_move.cls ≠ "java/lang/invoke/VarHandle" ∧ (parseMethodDescriptor yL_move.desc).map (fun d => d.parameters.length) = some 6 := by decide +kernel
set_option maxHeartbeats 4000000 in
set_option maxRecDepth 100000 in
theorem c_L_move (l : Launch) (dC : Nat → ClassId) (dI : Nat → Nat → Nat) (cy : Nat → ClassId) (hlt : l.stackTraces = false) (x : Nat → Nat) (F : Fig) (D : Fig) (P : PastS) (p1 : Int32) (p2 : Int32) (p3 : Int32) (p4 : Int32) (res : (Sum Nat Int32) × Fig × Fig × PastS) (h : G_X8_move F D P p1 p2 p3 p4 = some res) (o : Nat) (g : Nat → Int64) (hk : ∀ k, res.1 = .inl k → k = 1 ∨ k = 3) : LW l (dC, dI) (TY cy) yL_move cL_move 7 [(0, 14, 17, 28), (0, 14, 21, 15)] rmL_move [.ref (x 0), .int p1, .int p2, .int p3, .int p4, .ref o] (wLA o cy g ++ (wSPo x ++ wFig (fun j => x (1 + j)) cy F ++ wFig (fun j => x (6 + j)) cy D ++ wP2 (fun j => x (11 + j)) cy P ++ wPF (fun j => x (11 + j)) cy (p_figs P))) (wLA o cy (lo g res.1) ++ (wSPo x ++ wFig (fun j => x (1 + j)) cy res.2.1 ++ wFig (fun j => x (6 + j)) cy res.2.2.1 ++ wP2 (fun j => x (11 + j)) cy res.2.2.2 ++ wPF (fun j => x (11 + j)) cy (p_figs res.2.2.2))) (some (.int (lk 1 res.1))) := by
  refine LW.mk ⟨by decide, rfl⟩ (Nat.le_of_ble_eq_true rfl) ?_
  intro p e s mm args below meth cd A Q hx hb hml hown htab htg hN hK hX0 hNC hA hP hD hS hE ls hl
  have hl : lv_has ls 7 [(0, .ref (x 0)), (1, .int p1), (2, .int p2), (3, .int p3), (4, .int p4), (5, .ref o)] := hl
  obtain ⟨H, hH⟩ : ∃ H, H = s.heap := ⟨_, rfl⟩
  obtain ⟨locs, hlocs⟩ : ∃ locs : List Loc, locs = [] := ⟨_, rfl⟩
  rw [← hlocs] at hS ⊢
  have hS : va_S A s.heap H locs := by rw [hH]; exact hS
  rw [← hH] at hP ⊢
  refine lv_aload hx hb dL_move_0 (lv_at hl 5 rfl) ?_
  refine lv_iconst (v := 0) hx hb dL_move_2 (by decide) ?_
  refine lv_aload_n hx hb dL_move_3 rfl (lv_at hl 0 rfl) ?_
  refine lv_iload_n hx hb dL_move_4 rfl (lv_at hl 1 rfl) ?_
  refine lv_iload_n hx hb dL_move_5 rfl (lv_at hl 2 rfl) ?_
  refine lv_iload_n hx hb dL_move_6 rfl (lv_at hl 3 rfl) ?_
  refine lv_iload hx hb dL_move_7 (lv_at hl 4 rfl) ?_
  refine cXVp (av := [.int p1, .int p2, .int p3, .int p4]) (rest := [.int 0, .ref o]) (k1 := 2) (k2 := 12) (wn := wLA o cy g ++ (wSPo x ++ wFig (fun j => x (1 + j)) cy res.2.1 ++ wFig (fun j => x (6 + j)) cy res.2.2.1 ++ wP2 (fun j => x (11 + j)) cy res.2.2.2 ++ wPF (fun j => x (11 + j)) cy (p_figs res.2.2.2))) (ci := 3) (q0 := 0) hx hb hml hown htg hN hK hX0 (c_X8_move l dC dI cy hlt x F D P p1 p2 p3 p4 res h) (g_V gw660 gw661 gw662 gw59 gw663) hdV_X8_move rfl ⟨⟨Nat.le_of_ble_eq_true rfl, Nat.le_of_ble_eq_true rfl⟩, Nat.le_of_ble_eq_true rfl, Nat.le_of_ble_eq_true rfl⟩ hP hD hS hA ⟨rfl, rfl⟩ rfl List.perm_append_comm (List.Perm.refl _) hl.1 rfl (Nat.le_of_ble_eq_true rfl) rfl rfl dL_move_9 (fun H locs ret ho hP hD hS => ?_) (fun H locs k q ce ho hP hD hS h1 h2 h3 => ?_)
  · rcases hres : res.1 with k | v
    · rw [hres] at ho; cases ho
    rw [hres] at ho hE
    obtain rfl := Sum.inr.inj ho
    refine W.eq (g2 := F0 mm 12 ls [.int v, .int 0, .ref o]) rfl ?_
    refine lv_i2l (v := v.toInt64) hx hb dL_move_12 rfl ?_
    refine va_last hx hb hK hP hD hS 0 4 rfl rfl vp01 dL_move_13 (fun H locs hP hD hS => ?_)
    refine lv_goto (tgt := 25) hx hb dL_move_14 (by decide) ?_
    refine lv_iconst (v := 0) hx hb dL_move_25 (by decide) ?_
    exact hE H locs _ _ 26 ls hP hD hS (Nat.le_of_ble_eq_true rfl) (Nat.le_of_ble_eq_true rfl) dL_move_26
  · rcases hres : res.1 with k2 | v
    · have hk2 := hk k2 hres
      rw [hres] at ho hE
      obtain rfl := Sum.inl.inj ho
      rcases hk2 with rfl | rfl
      · skip
        refine vx_catch (own := RL) (name := exn 1) (E := exn 1) hown [] ⟨0, 14, 17, 28⟩ [⟨0, 14, 21, 15⟩] htab (fun z hz => by cases hz) rfl (by decide) (htg (Cond.classLink RL 28 (exn 1)) gw577) (va_Nw.use (XWs_on _ XW1) (hX0.2.2.2 _ XW1)) h1 h2 h3 ?_
        refine lv_astore (lv' := [(6, .ref q), (0, .ref (x 0)), (1, .int p1), (2, .int p2), (3, .int p3), (4, .int p4), (5, .ref o)]) hx hb dL_move_17 hl (by decide) rfl (fun ls hl => ?_)
        refine lv_iconst (v := 1) hx hb dL_move_19 (by decide) ?_
        exact hE H locs _ _ 20 ls hP hD hS (Nat.le_of_ble_eq_true rfl) (Nat.le_of_ble_eq_true rfl) dL_move_20
      · skip
        refine vx_catch (own := RL) (name := exn 3) (E := exn 3) hown [⟨0, 14, 17, 28⟩] ⟨0, 14, 21, 15⟩ [] htab (fun z hz => by obtain rfl := List.mem_singleton.mp hz; exact Or.inr ⟨by decide, exn 1, htg (Cond.classLink RL 28 (exn 1)) gw577, hNC 3 1 (by decide) (by decide) (by decide)⟩) rfl (by decide) (htg (Cond.classLink RL 15 (exn 3)) gw428) (va_Nw.use (XWs_on _ XW3) (hX0.2.2.2 _ XW3)) h1 h2 h3 ?_
        refine lv_astore (lv' := [(6, .ref q), (0, .ref (x 0)), (1, .int p1), (2, .int p2), (3, .int p3), (4, .int p4), (5, .ref o)]) hx hb dL_move_21 hl (by decide) rfl (fun ls hl => ?_)
        refine lv_iconst (v := 2) hx hb dL_move_23 (by decide) ?_
        exact hE H locs _ _ 24 ls hP hD hS (Nat.le_of_ble_eq_true rfl) (Nat.le_of_ble_eq_true rfl) dL_move_24
    · rw [hres] at ho; cases ho
theorem cw_insert : Cond.codeWith yL_insert cL_insert 7 (some .int) [(0, 14, 17, 28), (0, 14, 21, 15)] ∈ GW := gw_of 668 (by decide +kernel) rfl
abbrev rmL_insert : Room := { frames := 8, cells := 2, slots := 12, locals := 162 }
theorem hdL_insert : yL_insert.cls ≠ "java/lang/invoke/MethodHandle" ∧ yL_insert.cls ≠ "java/lang/invoke/VarHandle" ∧ (parseMethodDescriptor yL_insert.desc).map (fun d => d.parameters.length) = some 6 := by decide +kernel
set_option maxHeartbeats 4000000 in
set_option maxRecDepth 100000 in
theorem c_L_insert (l : Launch) (dC : Nat → ClassId) (dI : Nat → Nat → Nat) (cy : Nat → ClassId) (hlt : l.stackTraces = false) (x : Nat → Nat) (F : Fig) (D : Fig) (P : PastS) (p1 : Int32) (p2 : Int32) (p3 : Int32) (p4 : Int32) (res : (Sum Nat Int32) × Fig × Fig × PastS) (h : G_X8_insert F D P p1 p2 p3 p4 = some res) (o : Nat) (g : Nat → Int64) (hk : ∀ k, res.1 = .inl k → k = 1 ∨ k = 3) : LW l (dC, dI) (TY cy) yL_insert cL_insert 7 [(0, 14, 17, 28), (0, 14, 21, 15)] rmL_insert [.ref (x 0), .int p1, .int p2, .int p3, .int p4, .ref o] (wLA o cy g ++ (wSPo x ++ wFig (fun j => x (1 + j)) cy F ++ wFig (fun j => x (6 + j)) cy D ++ wP2 (fun j => x (11 + j)) cy P ++ wPF (fun j => x (11 + j)) cy (p_figs P))) (wLA o cy (lo g res.1) ++ (wSPo x ++ wFig (fun j => x (1 + j)) cy res.2.1 ++ wFig (fun j => x (6 + j)) cy res.2.2.1 ++ wP2 (fun j => x (11 + j)) cy res.2.2.2 ++ wPF (fun j => x (11 + j)) cy (p_figs res.2.2.2))) (some (.int (lk 1 res.1))) := by
  refine LW.mk ⟨by decide, rfl⟩ (Nat.le_of_ble_eq_true rfl) ?_
  intro p e s mm args below meth cd A Q hx hb hml hown htab htg hN hK hX0 hNC hA hP hD hS hE ls hl
  have hl : lv_has ls 7 [(0, .ref (x 0)), (1, .int p1), (2, .int p2), (3, .int p3), (4, .int p4), (5, .ref o)] := hl
  obtain ⟨H, hH⟩ : ∃ H, H = s.heap := ⟨_, rfl⟩
  obtain ⟨locs, hlocs⟩ : ∃ locs : List Loc, locs = [] := ⟨_, rfl⟩
  rw [← hlocs] at hS ⊢
  have hS : va_S A s.heap H locs := by rw [hH]; exact hS
  rw [← hH] at hP ⊢
  refine lv_aload hx hb dL_insert_0 (lv_at hl 5 rfl) ?_
  refine lv_iconst (v := 0) hx hb dL_insert_2 (by decide) ?_
  refine lv_aload_n hx hb dL_insert_3 rfl (lv_at hl 0 rfl) ?_
  refine lv_iload_n hx hb dL_insert_4 rfl (lv_at hl 1 rfl) ?_
  refine lv_iload_n hx hb dL_insert_5 rfl (lv_at hl 2 rfl) ?_
  refine lv_iload_n hx hb dL_insert_6 rfl (lv_at hl 3 rfl) ?_
  refine lv_iload hx hb dL_insert_7 (lv_at hl 4 rfl) ?_
  refine cXVp (av := [.int p1, .int p2, .int p3, .int p4]) (rest := [.int 0, .ref o]) (k1 := 2) (k2 := 12) (wn := wLA o cy g ++ (wSPo x ++ wFig (fun j => x (1 + j)) cy res.2.1 ++ wFig (fun j => x (6 + j)) cy res.2.2.1 ++ wP2 (fun j => x (11 + j)) cy res.2.2.2 ++ wPF (fun j => x (11 + j)) cy (p_figs res.2.2.2))) (ci := 3) (q0 := 0) hx hb hml hown htg hN hK hX0 (c_X8_insert l dC dI cy hlt x F D P p1 p2 p3 p4 res h) (g_V gw669 gw670 gw671 gw59 gw672) hdV_X8_insert rfl ⟨⟨Nat.le_of_ble_eq_true rfl, Nat.le_of_ble_eq_true rfl⟩, Nat.le_of_ble_eq_true rfl, Nat.le_of_ble_eq_true rfl⟩ hP hD hS hA ⟨rfl, rfl⟩ rfl List.perm_append_comm (List.Perm.refl _) hl.1 rfl (Nat.le_of_ble_eq_true rfl) rfl rfl dL_insert_9 (fun H locs ret ho hP hD hS => ?_) (fun H locs k q ce ho hP hD hS h1 h2 h3 => ?_)
  · rcases hres : res.1 with k | v
    · rw [hres] at ho; cases ho
    rw [hres] at ho hE
    obtain rfl := Sum.inr.inj ho
    refine W.eq (g2 := F0 mm 12 ls [.int v, .int 0, .ref o]) rfl ?_
    refine lv_i2l (v := v.toInt64) hx hb dL_insert_12 rfl ?_
    refine va_last hx hb hK hP hD hS 0 4 rfl rfl vp01 dL_insert_13 (fun H locs hP hD hS => ?_)
    refine lv_goto (tgt := 25) hx hb dL_insert_14 (by decide) ?_
    refine lv_iconst (v := 0) hx hb dL_insert_25 (by decide) ?_
    exact hE H locs _ _ 26 ls hP hD hS (Nat.le_of_ble_eq_true rfl) (Nat.le_of_ble_eq_true rfl) dL_insert_26
  · rcases hres : res.1 with k2 | v
    · have hk2 := hk k2 hres
      rw [hres] at ho hE
      obtain rfl := Sum.inl.inj ho
      rcases hk2 with rfl | rfl
      · skip
        refine vx_catch (own := RL) (name := exn 1) (E := exn 1) hown [] ⟨0, 14, 17, 28⟩ [⟨0, 14, 21, 15⟩] htab (fun z hz => by cases hz) rfl (by decide) (htg (Cond.classLink RL 28 (exn 1)) gw577) (va_Nw.use (XWs_on _ XW1) (hX0.2.2.2 _ XW1)) h1 h2 h3 ?_
        refine lv_astore (lv' := [(6, .ref q), (0, .ref (x 0)), (1, .int p1), (2, .int p2), (3, .int p3), (4, .int p4), (5, .ref o)]) hx hb dL_insert_17 hl (by decide) rfl (fun ls hl => ?_)
        refine lv_iconst (v := 1) hx hb dL_insert_19 (by decide) ?_
        exact hE H locs _ _ 20 ls hP hD hS (Nat.le_of_ble_eq_true rfl) (Nat.le_of_ble_eq_true rfl) dL_insert_20
      · skip
        refine vx_catch (own := RL) (name := exn 3) (E := exn 3) hown [⟨0, 14, 17, 28⟩] ⟨0, 14, 21, 15⟩ [] htab (fun z hz => by obtain rfl := List.mem_singleton.mp hz; exact Or.inr ⟨by decide, exn 1, htg (Cond.classLink RL 28 (exn 1)) gw577, hNC 3 1 (by decide) (by decide) (by decide)⟩) rfl (by decide) (htg (Cond.classLink RL 15 (exn 3)) gw428) (va_Nw.use (XWs_on _ XW3) (hX0.2.2.2 _ XW3)) h1 h2 h3 ?_
        refine lv_astore (lv' := [(6, .ref q), (0, .ref (x 0)), (1, .int p1), (2, .int p2), (3, .int p3), (4, .int p4), (5, .ref o)]) hx hb dL_insert_21 hl (by decide) rfl (fun ls hl => ?_)
        refine lv_iconst (v := 2) hx hb dL_insert_23 (by decide) ?_
        exact hE H locs _ _ 24 ls hP hD hS (Nat.le_of_ble_eq_true rfl) (Nat.le_of_ble_eq_true rfl) dL_insert_24
    · rw [hres] at ho; cases ho
theorem cw_remove : Cond.codeWith yL_remove cL_remove 5 (some .int) [(0, 10, 13, 28), (0, 10, 17, 15)] ∈ GW := gw_of 681 (by decide +kernel) rfl
abbrev rmL_remove : Room := { frames := 8, cells := 2, slots := 12, locals := 158 }
theorem hdL_remove : yL_remove.cls ≠ "java/lang/invoke/MethodHandle" ∧ yL_remove.cls ≠ "java/lang/invoke/VarHandle" ∧ (parseMethodDescriptor yL_remove.desc).map (fun d => d.parameters.length) = some 4 := by decide +kernel
set_option maxHeartbeats 4000000 in
set_option maxRecDepth 100000 in
theorem c_L_remove (l : Launch) (dC : Nat → ClassId) (dI : Nat → Nat → Nat) (cy : Nat → ClassId) (hlt : l.stackTraces = false) (x : Nat → Nat) (F : Fig) (D : Fig) (P : PastS) (p1 : Int32) (p2 : Int32) (res : (Sum Nat Int32) × Fig × Fig × PastS) (h : G_X8_remove F D P p1 p2 = some res) (o : Nat) (g : Nat → Int64) (hk : ∀ k, res.1 = .inl k → k = 1 ∨ k = 3) : LW l (dC, dI) (TY cy) yL_remove cL_remove 5 [(0, 10, 13, 28), (0, 10, 17, 15)] rmL_remove [.ref (x 0), .int p1, .int p2, .ref o] (wLA o cy g ++ (wSPo x ++ wFig (fun j => x (1 + j)) cy F ++ wFig (fun j => x (6 + j)) cy D ++ wP2 (fun j => x (11 + j)) cy P ++ wPF (fun j => x (11 + j)) cy (p_figs P))) (wLA o cy (lo g res.1) ++ (wSPo x ++ wFig (fun j => x (1 + j)) cy res.2.1 ++ wFig (fun j => x (6 + j)) cy res.2.2.1 ++ wP2 (fun j => x (11 + j)) cy res.2.2.2 ++ wPF (fun j => x (11 + j)) cy (p_figs res.2.2.2))) (some (.int (lk 1 res.1))) := by
  refine LW.mk ⟨by decide, rfl⟩ (Nat.le_of_ble_eq_true rfl) ?_
  intro p e s mm args below meth cd A Q hx hb hml hown htab htg hN hK hX0 hNC hA hP hD hS hE ls hl
  have hl : lv_has ls 5 [(0, .ref (x 0)), (1, .int p1), (2, .int p2), (3, .ref o)] := hl
  obtain ⟨H, hH⟩ : ∃ H, H = s.heap := ⟨_, rfl⟩
  obtain ⟨locs, hlocs⟩ : ∃ locs : List Loc, locs = [] := ⟨_, rfl⟩
  rw [← hlocs] at hS ⊢
  have hS : va_S A s.heap H locs := by rw [hH]; exact hS
  rw [← hH] at hP ⊢
  refine lv_aload_n hx hb dL_remove_0 rfl (lv_at hl 3 rfl) ?_
  refine lv_iconst (v := 0) hx hb dL_remove_1 (by decide) ?_
  refine lv_aload_n hx hb dL_remove_2 rfl (lv_at hl 0 rfl) ?_
  refine lv_iload_n hx hb dL_remove_3 rfl (lv_at hl 1 rfl) ?_
  refine lv_iload_n hx hb dL_remove_4 rfl (lv_at hl 2 rfl) ?_
  refine cXVp (av := [.int p1, .int p2]) (rest := [.int 0, .ref o]) (k1 := 2) (k2 := 12) (wn := wLA o cy g ++ (wSPo x ++ wFig (fun j => x (1 + j)) cy res.2.1 ++ wFig (fun j => x (6 + j)) cy res.2.2.1 ++ wP2 (fun j => x (11 + j)) cy res.2.2.2 ++ wPF (fun j => x (11 + j)) cy (p_figs res.2.2.2))) (ci := 3) (q0 := 0) hx hb hml hown htg hN hK hX0 (c_X8_remove l dC dI cy hlt x F D P p1 p2 res h) (g_V gw682 gw683 gw684 gw59 gw685) hdV_X8_remove rfl ⟨⟨Nat.le_of_ble_eq_true rfl, Nat.le_of_ble_eq_true rfl⟩, Nat.le_of_ble_eq_true rfl, Nat.le_of_ble_eq_true rfl⟩ hP hD hS hA ⟨rfl, rfl⟩ rfl List.perm_append_comm (List.Perm.refl _) hl.1 rfl (Nat.le_of_ble_eq_true rfl) rfl rfl dL_remove_5 (fun H locs ret ho hP hD hS => ?_) (fun H locs k q ce ho hP hD hS h1 h2 h3 => ?_)
  · rcases hres : res.1 with k | v
    · rw [hres] at ho; cases ho
    rw [hres] at ho hE
    obtain rfl := Sum.inr.inj ho
    refine W.eq (g2 := F0 mm 8 ls [.int v, .int 0, .ref o]) rfl ?_
    refine lv_i2l (v := v.toInt64) hx hb dL_remove_8 rfl ?_
    refine va_last hx hb hK hP hD hS 0 4 rfl rfl vp01 dL_remove_9 (fun H locs hP hD hS => ?_)
    refine lv_goto (tgt := 21) hx hb dL_remove_10 (by decide) ?_
    refine lv_iconst (v := 0) hx hb dL_remove_21 (by decide) ?_
    exact hE H locs _ _ 22 ls hP hD hS (Nat.le_of_ble_eq_true rfl) (Nat.le_of_ble_eq_true rfl) dL_remove_22
  · rcases hres : res.1 with k2 | v
    · have hk2 := hk k2 hres
      rw [hres] at ho hE
      obtain rfl := Sum.inl.inj ho
      rcases hk2 with rfl | rfl
      · skip
        refine vx_catch (own := RL) (name := exn 1) (E := exn 1) hown [] ⟨0, 10, 13, 28⟩ [⟨0, 10, 17, 15⟩] htab (fun z hz => by cases hz) rfl (by decide) (htg (Cond.classLink RL 28 (exn 1)) gw577) (va_Nw.use (XWs_on _ XW1) (hX0.2.2.2 _ XW1)) h1 h2 h3 ?_
        refine lv_astore (lv' := [(4, .ref q), (0, .ref (x 0)), (1, .int p1), (2, .int p2), (3, .ref o)]) hx hb dL_remove_13 hl (by decide) rfl (fun ls hl => ?_)
        refine lv_iconst (v := 1) hx hb dL_remove_15 (by decide) ?_
        exact hE H locs _ _ 16 ls hP hD hS (Nat.le_of_ble_eq_true rfl) (Nat.le_of_ble_eq_true rfl) dL_remove_16
      · skip
        refine vx_catch (own := RL) (name := exn 3) (E := exn 3) hown [⟨0, 10, 13, 28⟩] ⟨0, 10, 17, 15⟩ [] htab (fun z hz => by obtain rfl := List.mem_singleton.mp hz; exact Or.inr ⟨by decide, exn 1, htg (Cond.classLink RL 28 (exn 1)) gw577, hNC 3 1 (by decide) (by decide) (by decide)⟩) rfl (by decide) (htg (Cond.classLink RL 15 (exn 3)) gw428) (va_Nw.use (XWs_on _ XW3) (hX0.2.2.2 _ XW3)) h1 h2 h3 ?_
        refine lv_astore (lv' := [(4, .ref q), (0, .ref (x 0)), (1, .int p1), (2, .int p2), (3, .ref o)]) hx hb dL_remove_17 hl (by decide) rfl (fun ls hl => ?_)
        refine lv_iconst (v := 2) hx hb dL_remove_19 (by decide) ?_
        exact hE H locs _ _ 20 ls hP hD hS (Nat.le_of_ble_eq_true rfl) (Nat.le_of_ble_eq_true rfl) dL_remove_20
    · rw [hres] at ho; cases ho
theorem cw_addHole : Cond.codeWith yL_addHole cL_addHole 5 (some .int) [(0, 10, 13, 13), (0, 10, 17, 15)] ∈ GW := gw_of 701 (by decide +kernel) rfl
abbrev rmL_addHole : Room := { frames := 7, cells := 1, slots := 6, locals := 158 }
theorem hdL_addHole : yL_addHole.cls ≠ "java/lang/invoke/MethodHandle" ∧ yL_addHole.cls ≠ "java/lang/invoke/VarHandle" ∧ (parseMethodDescriptor yL_addHole.desc).map (fun d => d.parameters.length) = some 4 := by decide +kernel
set_option maxHeartbeats 4000000 in
set_option maxRecDepth 100000 in
theorem c_L_addHole (l : Launch) (dC : Nat → ClassId) (dI : Nat → Nat → Nat) (cy : Nat → ClassId) (hlt : l.stackTraces = false) (x : Nat → Nat) (F : Fig) (D : Fig) (P : PastS) (p1 : Int32) (p2 : Int32) (res : (Sum Nat Int32) × Fig × Fig × PastS) (h : G_X8_addHole F D P p1 p2 = some res) (o : Nat) (g : Nat → Int64) (hk : ∀ k, res.1 = .inl k → k = 2 ∨ k = 3) : LW l (dC, dI) (TY cy) yL_addHole cL_addHole 5 [(0, 10, 13, 13), (0, 10, 17, 15)] rmL_addHole [.ref (x 0), .int p1, .int p2, .ref o] (wLA o cy g ++ (wSPo x ++ wFig (fun j => x (1 + j)) cy F ++ wFig (fun j => x (6 + j)) cy D ++ wP2 (fun j => x (11 + j)) cy P ++ wPF (fun j => x (11 + j)) cy (p_figs P))) (wLA o cy (lo g res.1) ++ (wSPo x ++ wFig (fun j => x (1 + j)) cy res.2.1 ++ wFig (fun j => x (6 + j)) cy res.2.2.1 ++ wP2 (fun j => x (11 + j)) cy res.2.2.2 ++ wPF (fun j => x (11 + j)) cy (p_figs res.2.2.2))) (some (.int (lk 2 res.1))) := by
  refine LW.mk ⟨by decide, rfl⟩ (Nat.le_of_ble_eq_true rfl) ?_
  intro p e s mm args below meth cd A Q hx hb hml hown htab htg hN hK hX0 hNC hA hP hD hS hE ls hl
  have hl : lv_has ls 5 [(0, .ref (x 0)), (1, .int p1), (2, .int p2), (3, .ref o)] := hl
  obtain ⟨H, hH⟩ : ∃ H, H = s.heap := ⟨_, rfl⟩
  obtain ⟨locs, hlocs⟩ : ∃ locs : List Loc, locs = [] := ⟨_, rfl⟩
  rw [← hlocs] at hS ⊢
  have hS : va_S A s.heap H locs := by rw [hH]; exact hS
  rw [← hH] at hP ⊢
  refine lv_aload_n hx hb dL_addHole_0 rfl (lv_at hl 3 rfl) ?_
  refine lv_iconst (v := 0) hx hb dL_addHole_1 (by decide) ?_
  refine lv_aload_n hx hb dL_addHole_2 rfl (lv_at hl 0 rfl) ?_
  refine lv_iload_n hx hb dL_addHole_3 rfl (lv_at hl 1 rfl) ?_
  refine lv_iload_n hx hb dL_addHole_4 rfl (lv_at hl 2 rfl) ?_
  refine cXVp (av := [.int p1, .int p2]) (rest := [.int 0, .ref o]) (k1 := 1) (k2 := 6) (wn := wLA o cy g ++ (wSPo x ++ wFig (fun j => x (1 + j)) cy res.2.1 ++ wFig (fun j => x (6 + j)) cy res.2.2.1 ++ wP2 (fun j => x (11 + j)) cy res.2.2.2 ++ wPF (fun j => x (11 + j)) cy (p_figs res.2.2.2))) (ci := 3) (q0 := 0) hx hb hml hown htg hN hK hX0 (c_X8_addHole l dC dI cy hlt x F D P p1 p2 res h) (g_V gw702 gw703 gw704 gw59 gw705) hdV_X8_addHole rfl ⟨⟨Nat.le_of_ble_eq_true rfl, Nat.le_of_ble_eq_true rfl⟩, Nat.le_of_ble_eq_true rfl, Nat.le_of_ble_eq_true rfl⟩ hP hD hS hA ⟨rfl, rfl⟩ rfl List.perm_append_comm (List.Perm.refl _) hl.1 rfl (Nat.le_of_ble_eq_true rfl) rfl rfl dL_addHole_5 (fun H locs ret ho hP hD hS => ?_) (fun H locs k q ce ho hP hD hS h1 h2 h3 => ?_)
  · rcases hres : res.1 with k | v
    · rw [hres] at ho; cases ho
    rw [hres] at ho hE
    obtain rfl := Sum.inr.inj ho
    refine W.eq (g2 := F0 mm 8 ls [.int v, .int 0, .ref o]) rfl ?_
    refine lv_i2l (v := v.toInt64) hx hb dL_addHole_8 rfl ?_
    refine va_last hx hb hK hP hD hS 0 4 rfl rfl vp01 dL_addHole_9 (fun H locs hP hD hS => ?_)
    refine lv_goto (tgt := 21) hx hb dL_addHole_10 (by decide) ?_
    refine lv_iconst (v := 0) hx hb dL_addHole_21 (by decide) ?_
    exact hE H locs _ _ 22 ls hP hD hS (Nat.le_of_ble_eq_true rfl) (Nat.le_of_ble_eq_true rfl) dL_addHole_22
  · rcases hres : res.1 with k2 | v
    · have hk2 := hk k2 hres
      rw [hres] at ho hE
      obtain rfl := Sum.inl.inj ho
      rcases hk2 with rfl | rfl
      · skip
        refine vx_catch (own := RL) (name := exn 2) (E := exn 2) hown [] ⟨0, 10, 13, 13⟩ [⟨0, 10, 17, 15⟩] htab (fun z hz => by cases hz) rfl (by decide) (htg (Cond.classLink RL 13 (exn 2)) gw427) (va_Nw.use (XWs_on _ XW2) (hX0.2.2.2 _ XW2)) h1 h2 h3 ?_
        refine lv_astore (lv' := [(4, .ref q), (0, .ref (x 0)), (1, .int p1), (2, .int p2), (3, .ref o)]) hx hb dL_addHole_13 hl (by decide) rfl (fun ls hl => ?_)
        refine lv_iconst (v := 1) hx hb dL_addHole_15 (by decide) ?_
        exact hE H locs _ _ 16 ls hP hD hS (Nat.le_of_ble_eq_true rfl) (Nat.le_of_ble_eq_true rfl) dL_addHole_16
      · skip
        refine vx_catch (own := RL) (name := exn 3) (E := exn 3) hown [⟨0, 10, 13, 13⟩] ⟨0, 10, 17, 15⟩ [] htab (fun z hz => by obtain rfl := List.mem_singleton.mp hz; exact Or.inr ⟨by decide, exn 2, htg (Cond.classLink RL 13 (exn 2)) gw427, hNC 3 2 (by decide) (by decide) (by decide)⟩) rfl (by decide) (htg (Cond.classLink RL 15 (exn 3)) gw428) (va_Nw.use (XWs_on _ XW3) (hX0.2.2.2 _ XW3)) h1 h2 h3 ?_
        refine lv_astore (lv' := [(4, .ref q), (0, .ref (x 0)), (1, .int p1), (2, .int p2), (3, .ref o)]) hx hb dL_addHole_17 hl (by decide) rfl (fun ls hl => ?_)
        refine lv_iconst (v := 2) hx hb dL_addHole_19 (by decide) ?_
        exact hE H locs _ _ 20 ls hP hD hS (Nat.le_of_ble_eq_true rfl) (Nat.le_of_ble_eq_true rfl) dL_addHole_20
    · rw [hres] at ho; cases ho
theorem cw_dropHole : Cond.codeWith yL_dropHole cL_dropHole 4 (some .int) [(0, 9, 12, 28), (0, 9, 15, 15)] ∈ GW := gw_of 716 (by decide +kernel) rfl
abbrev rmL_dropHole : Room := { frames := 8, cells := 2, slots := 12, locals := 131 }
theorem hdL_dropHole : yL_dropHole.cls ≠ "java/lang/invoke/MethodHandle" ∧ yL_dropHole.cls ≠ "java/lang/invoke/VarHandle" ∧ (parseMethodDescriptor yL_dropHole.desc).map (fun d => d.parameters.length) = some 3 := by decide +kernel
set_option maxHeartbeats 4000000 in
set_option maxRecDepth 100000 in
theorem c_L_dropHole (l : Launch) (dC : Nat → ClassId) (dI : Nat → Nat → Nat) (cy : Nat → ClassId) (hlt : l.stackTraces = false) (x : Nat → Nat) (F : Fig) (D : Fig) (P : PastS) (p1 : Int32) (res : (Sum Nat Int32) × Fig × Fig × PastS) (h : G_X8_dropHole F D P p1 = some res) (o : Nat) (g : Nat → Int64) (hk : ∀ k, res.1 = .inl k → k = 1 ∨ k = 3) : LW l (dC, dI) (TY cy) yL_dropHole cL_dropHole 4 [(0, 9, 12, 28), (0, 9, 15, 15)] rmL_dropHole [.ref (x 0), .int p1, .ref o] (wLA o cy g ++ (wSPo x ++ wFig (fun j => x (1 + j)) cy F ++ wFig (fun j => x (6 + j)) cy D ++ wP2 (fun j => x (11 + j)) cy P ++ wPF (fun j => x (11 + j)) cy (p_figs P))) (wLA o cy (lo g res.1) ++ (wSPo x ++ wFig (fun j => x (1 + j)) cy res.2.1 ++ wFig (fun j => x (6 + j)) cy res.2.2.1 ++ wP2 (fun j => x (11 + j)) cy res.2.2.2 ++ wPF (fun j => x (11 + j)) cy (p_figs res.2.2.2))) (some (.int (lk 1 res.1))) := by
  refine LW.mk ⟨by decide, rfl⟩ (Nat.le_of_ble_eq_true rfl) ?_
  intro p e s mm args below meth cd A Q hx hb hml hown htab htg hN hK hX0 hNC hA hP hD hS hE ls hl
  have hl : lv_has ls 4 [(0, .ref (x 0)), (1, .int p1), (2, .ref o)] := hl
  obtain ⟨H, hH⟩ : ∃ H, H = s.heap := ⟨_, rfl⟩
  obtain ⟨locs, hlocs⟩ : ∃ locs : List Loc, locs = [] := ⟨_, rfl⟩
  rw [← hlocs] at hS ⊢
  have hS : va_S A s.heap H locs := by rw [hH]; exact hS
  rw [← hH] at hP ⊢
  refine lv_aload_n hx hb dL_dropHole_0 rfl (lv_at hl 2 rfl) ?_
  refine lv_iconst (v := 0) hx hb dL_dropHole_1 (by decide) ?_
  refine lv_aload_n hx hb dL_dropHole_2 rfl (lv_at hl 0 rfl) ?_
  refine lv_iload_n hx hb dL_dropHole_3 rfl (lv_at hl 1 rfl) ?_
  refine cXVp (av := [.int p1]) (rest := [.int 0, .ref o]) (k1 := 2) (k2 := 12) (wn := wLA o cy g ++ (wSPo x ++ wFig (fun j => x (1 + j)) cy res.2.1 ++ wFig (fun j => x (6 + j)) cy res.2.2.1 ++ wP2 (fun j => x (11 + j)) cy res.2.2.2 ++ wPF (fun j => x (11 + j)) cy (p_figs res.2.2.2))) (ci := 3) (q0 := 0) hx hb hml hown htg hN hK hX0 (c_X8_dropHole l dC dI cy hlt x F D P p1 res h) (g_V gw717 gw718 gw719 gw59 gw720) hdV_X8_dropHole rfl ⟨⟨Nat.le_of_ble_eq_true rfl, Nat.le_of_ble_eq_true rfl⟩, Nat.le_of_ble_eq_true rfl, Nat.le_of_ble_eq_true rfl⟩ hP hD hS hA ⟨rfl, rfl⟩ rfl List.perm_append_comm (List.Perm.refl _) hl.1 rfl (Nat.le_of_ble_eq_true rfl) rfl rfl dL_dropHole_4 (fun H locs ret ho hP hD hS => ?_) (fun H locs k q ce ho hP hD hS h1 h2 h3 => ?_)
  · rcases hres : res.1 with k | v
    · rw [hres] at ho; cases ho
    rw [hres] at ho hE
    obtain rfl := Sum.inr.inj ho
    refine W.eq (g2 := F0 mm 7 ls [.int v, .int 0, .ref o]) rfl ?_
    refine lv_i2l (v := v.toInt64) hx hb dL_dropHole_7 rfl ?_
    refine va_last hx hb hK hP hD hS 0 4 rfl rfl vp01 dL_dropHole_8 (fun H locs hP hD hS => ?_)
    refine lv_goto (tgt := 18) hx hb dL_dropHole_9 (by decide) ?_
    refine lv_iconst (v := 0) hx hb dL_dropHole_18 (by decide) ?_
    exact hE H locs _ _ 19 ls hP hD hS (Nat.le_of_ble_eq_true rfl) (Nat.le_of_ble_eq_true rfl) dL_dropHole_19
  · rcases hres : res.1 with k2 | v
    · have hk2 := hk k2 hres
      rw [hres] at ho hE
      obtain rfl := Sum.inl.inj ho
      rcases hk2 with rfl | rfl
      · skip
        refine vx_catch (own := RL) (name := exn 1) (E := exn 1) hown [] ⟨0, 9, 12, 28⟩ [⟨0, 9, 15, 15⟩] htab (fun z hz => by cases hz) rfl (by decide) (htg (Cond.classLink RL 28 (exn 1)) gw577) (va_Nw.use (XWs_on _ XW1) (hX0.2.2.2 _ XW1)) h1 h2 h3 ?_
        refine lv_astore_n (lv' := [(3, .ref q), (0, .ref (x 0)), (1, .int p1), (2, .ref o)]) hx hb dL_dropHole_12 rfl hl (by decide) rfl (fun ls hl => ?_)
        refine lv_iconst (v := 1) hx hb dL_dropHole_13 (by decide) ?_
        exact hE H locs _ _ 14 ls hP hD hS (Nat.le_of_ble_eq_true rfl) (Nat.le_of_ble_eq_true rfl) dL_dropHole_14
      · skip
        refine vx_catch (own := RL) (name := exn 3) (E := exn 3) hown [⟨0, 9, 12, 28⟩] ⟨0, 9, 15, 15⟩ [] htab (fun z hz => by obtain rfl := List.mem_singleton.mp hz; exact Or.inr ⟨by decide, exn 1, htg (Cond.classLink RL 28 (exn 1)) gw577, hNC 3 1 (by decide) (by decide) (by decide)⟩) rfl (by decide) (htg (Cond.classLink RL 15 (exn 3)) gw428) (va_Nw.use (XWs_on _ XW3) (hX0.2.2.2 _ XW3)) h1 h2 h3 ?_
        refine lv_astore_n (lv' := [(3, .ref q), (0, .ref (x 0)), (1, .int p1), (2, .ref o)]) hx hb dL_dropHole_15 rfl hl (by decide) rfl (fun ls hl => ?_)
        refine lv_iconst (v := 2) hx hb dL_dropHole_16 (by decide) ?_
        exact hE H locs _ _ 17 ls hP hD hS (Nat.le_of_ble_eq_true rfl) (Nat.le_of_ble_eq_true rfl) dL_dropHole_17
    · rw [hres] at ho; cases ho
theorem cw_shift : Cond.codeWith yL_shift cL_shift 5 (some .int) [(0, 10, 13, 13), (0, 10, 17, 15)] ∈ GW := gw_of 728 (by decide +kernel) rfl
abbrev rmL_shift : Room := { frames := 7, cells := 1, slots := 6, locals := 124 }
theorem hdL_shift : yL_shift.cls ≠ "java/lang/invoke/MethodHandle" ∧ yL_shift.cls ≠ "java/lang/invoke/VarHandle" ∧ (parseMethodDescriptor yL_shift.desc).map (fun d => d.parameters.length) = some 4 := by decide +kernel
set_option maxHeartbeats 4000000 in
set_option maxRecDepth 100000 in
theorem c_L_shift (l : Launch) (dC : Nat → ClassId) (dI : Nat → Nat → Nat) (cy : Nat → ClassId) (hlt : l.stackTraces = false) (x : Nat → Nat) (F : Fig) (D : Fig) (P : PastS) (p1 : Int32) (p2 : Int32) (res : (Sum Nat Int32) × Fig × Fig × PastS) (h : G_X8_shift F D P p1 p2 = some res) (o : Nat) (g : Nat → Int64) (hk : ∀ k, res.1 = .inl k → k = 2 ∨ k = 3) : LW l (dC, dI) (TY cy) yL_shift cL_shift 5 [(0, 10, 13, 13), (0, 10, 17, 15)] rmL_shift [.ref (x 0), .int p1, .int p2, .ref o] (wLA o cy g ++ (wSPo x ++ wFig (fun j => x (1 + j)) cy F ++ wFig (fun j => x (6 + j)) cy D ++ wP2 (fun j => x (11 + j)) cy P ++ wPF (fun j => x (11 + j)) cy (p_figs P))) (wLA o cy (lo g res.1) ++ (wSPo x ++ wFig (fun j => x (1 + j)) cy res.2.1 ++ wFig (fun j => x (6 + j)) cy res.2.2.1 ++ wP2 (fun j => x (11 + j)) cy res.2.2.2 ++ wPF (fun j => x (11 + j)) cy (p_figs res.2.2.2))) (some (.int (lk 2 res.1))) := by
  refine LW.mk ⟨by decide, rfl⟩ (Nat.le_of_ble_eq_true rfl) ?_
  intro p e s mm args below meth cd A Q hx hb hml hown htab htg hN hK hX0 hNC hA hP hD hS hE ls hl
  have hl : lv_has ls 5 [(0, .ref (x 0)), (1, .int p1), (2, .int p2), (3, .ref o)] := hl
  obtain ⟨H, hH⟩ : ∃ H, H = s.heap := ⟨_, rfl⟩
  obtain ⟨locs, hlocs⟩ : ∃ locs : List Loc, locs = [] := ⟨_, rfl⟩
  rw [← hlocs] at hS ⊢
  have hS : va_S A s.heap H locs := by rw [hH]; exact hS
  rw [← hH] at hP ⊢
  refine lv_aload_n hx hb dL_shift_0 rfl (lv_at hl 3 rfl) ?_
  refine lv_iconst (v := 0) hx hb dL_shift_1 (by decide) ?_
  refine lv_aload_n hx hb dL_shift_2 rfl (lv_at hl 0 rfl) ?_
  refine lv_iload_n hx hb dL_shift_3 rfl (lv_at hl 1 rfl) ?_
  refine lv_iload_n hx hb dL_shift_4 rfl (lv_at hl 2 rfl) ?_
  refine cXVp (av := [.int p1, .int p2]) (rest := [.int 0, .ref o]) (k1 := 1) (k2 := 6) (wn := wLA o cy g ++ (wSPo x ++ wFig (fun j => x (1 + j)) cy res.2.1 ++ wFig (fun j => x (6 + j)) cy res.2.2.1 ++ wP2 (fun j => x (11 + j)) cy res.2.2.2 ++ wPF (fun j => x (11 + j)) cy (p_figs res.2.2.2))) (ci := 3) (q0 := 0) hx hb hml hown htg hN hK hX0 (c_X8_shift l dC dI cy hlt x F D P p1 p2 res h) (g_V gw729 gw730 gw731 gw59 gw732) hdV_X8_shift rfl ⟨⟨Nat.le_of_ble_eq_true rfl, Nat.le_of_ble_eq_true rfl⟩, Nat.le_of_ble_eq_true rfl, Nat.le_of_ble_eq_true rfl⟩ hP hD hS hA ⟨rfl, rfl⟩ rfl List.perm_append_comm (List.Perm.refl _) hl.1 rfl (Nat.le_of_ble_eq_true rfl) rfl rfl dL_shift_5 (fun H locs ret ho hP hD hS => ?_) (fun H locs k q ce ho hP hD hS h1 h2 h3 => ?_)
  · rcases hres : res.1 with k | v
    · rw [hres] at ho; cases ho
    rw [hres] at ho hE
    obtain rfl := Sum.inr.inj ho
    refine W.eq (g2 := F0 mm 8 ls [.int v, .int 0, .ref o]) rfl ?_
    refine lv_i2l (v := v.toInt64) hx hb dL_shift_8 rfl ?_
    refine va_last hx hb hK hP hD hS 0 4 rfl rfl vp01 dL_shift_9 (fun H locs hP hD hS => ?_)
    refine lv_goto (tgt := 21) hx hb dL_shift_10 (by decide) ?_
    refine lv_iconst (v := 0) hx hb dL_shift_21 (by decide) ?_
    exact hE H locs _ _ 22 ls hP hD hS (Nat.le_of_ble_eq_true rfl) (Nat.le_of_ble_eq_true rfl) dL_shift_22
  · rcases hres : res.1 with k2 | v
    · have hk2 := hk k2 hres
      rw [hres] at ho hE
      obtain rfl := Sum.inl.inj ho
      rcases hk2 with rfl | rfl
      · skip
        refine vx_catch (own := RL) (name := exn 2) (E := exn 2) hown [] ⟨0, 10, 13, 13⟩ [⟨0, 10, 17, 15⟩] htab (fun z hz => by cases hz) rfl (by decide) (htg (Cond.classLink RL 13 (exn 2)) gw427) (va_Nw.use (XWs_on _ XW2) (hX0.2.2.2 _ XW2)) h1 h2 h3 ?_
        refine lv_astore (lv' := [(4, .ref q), (0, .ref (x 0)), (1, .int p1), (2, .int p2), (3, .ref o)]) hx hb dL_shift_13 hl (by decide) rfl (fun ls hl => ?_)
        refine lv_iconst (v := 1) hx hb dL_shift_15 (by decide) ?_
        exact hE H locs _ _ 16 ls hP hD hS (Nat.le_of_ble_eq_true rfl) (Nat.le_of_ble_eq_true rfl) dL_shift_16
      · skip
        refine vx_catch (own := RL) (name := exn 3) (E := exn 3) hown [⟨0, 10, 13, 13⟩] ⟨0, 10, 17, 15⟩ [] htab (fun z hz => by obtain rfl := List.mem_singleton.mp hz; exact Or.inr ⟨by decide, exn 2, htg (Cond.classLink RL 13 (exn 2)) gw427, hNC 3 2 (by decide) (by decide) (by decide)⟩) rfl (by decide) (htg (Cond.classLink RL 15 (exn 3)) gw428) (va_Nw.use (XWs_on _ XW3) (hX0.2.2.2 _ XW3)) h1 h2 h3 ?_
        refine lv_astore (lv' := [(4, .ref q), (0, .ref (x 0)), (1, .int p1), (2, .int p2), (3, .ref o)]) hx hb dL_shift_17 hl (by decide) rfl (fun ls hl => ?_)
        refine lv_iconst (v := 2) hx hb dL_shift_19 (by decide) ?_
        exact hE H locs _ _ 20 ls hP hD hS (Nat.le_of_ble_eq_true rfl) (Nat.le_of_ble_eq_true rfl) dL_shift_20
    · rw [hres] at ho; cases ho
theorem cw_undo : Cond.codeWith yL_undo cL_undo 3 (some .int) [(0, 8, 11, 15)] ∈ GW := gw_of 745 (by decide +kernel) rfl
abbrev rmL_undo : Room := { frames := 7, cells := 1, slots := 6, locals := 102 }
theorem hdL_undo : yL_undo.cls ≠ "java/lang/invoke/MethodHandle" ∧ yL_undo.cls ≠ "java/lang/invoke/VarHandle" ∧ (parseMethodDescriptor yL_undo.desc).map (fun d => d.parameters.length) = some 2 := by decide +kernel
set_option maxHeartbeats 4000000 in
set_option maxRecDepth 100000 in
theorem c_L_undo (l : Launch) (dC : Nat → ClassId) (dI : Nat → Nat → Nat) (cy : Nat → ClassId) (hlt : l.stackTraces = false) (x : Nat → Nat) (F : Fig) (P : PastS) (res : (Sum Nat Int32) × Fig × PastS) (h : G_X8_undo F P = some res) (o : Nat) (g : Nat → Int64) (hk : ∀ k, res.1 = .inl k → k = 3) : LW l (dC, dI) (TY cy) yL_undo cL_undo 3 [(0, 8, 11, 15)] rmL_undo [.ref (x 0), .ref o] (wLA o cy g ++ (wSPo x ++ wFig (fun j => x (1 + j)) cy F ++ wP2 (fun j => x (11 + j)) cy P ++ wPF (fun j => x (11 + j)) cy (p_figs P))) (wLA o cy (lo g res.1) ++ (wSPo x ++ wFig (fun j => x (1 + j)) cy res.2.1 ++ wP2 (fun j => x (11 + j)) cy res.2.2 ++ wPF (fun j => x (11 + j)) cy (p_figs res.2.2))) (some (.int (lk 3 res.1))) := by
  refine LW.mk ⟨by decide, rfl⟩ (Nat.le_of_ble_eq_true rfl) ?_
  intro p e s mm args below meth cd A Q hx hb hml hown htab htg hN hK hX0 hNC hA hP hD hS hE ls hl
  have hl : lv_has ls 3 [(0, .ref (x 0)), (1, .ref o)] := hl
  obtain ⟨H, hH⟩ : ∃ H, H = s.heap := ⟨_, rfl⟩
  obtain ⟨locs, hlocs⟩ : ∃ locs : List Loc, locs = [] := ⟨_, rfl⟩
  rw [← hlocs] at hS ⊢
  have hS : va_S A s.heap H locs := by rw [hH]; exact hS
  rw [← hH] at hP ⊢
  refine lv_aload_n hx hb dL_undo_0 rfl (lv_at hl 1 rfl) ?_
  refine lv_iconst (v := 0) hx hb dL_undo_1 (by decide) ?_
  refine lv_aload_n hx hb dL_undo_2 rfl (lv_at hl 0 rfl) ?_
  refine cXVp (av := []) (rest := [.int 0, .ref o]) (k1 := 1) (k2 := 6) (wn := wLA o cy g ++ (wSPo x ++ wFig (fun j => x (1 + j)) cy res.2.1 ++ wP2 (fun j => x (11 + j)) cy res.2.2 ++ wPF (fun j => x (11 + j)) cy (p_figs res.2.2))) (ci := 3) (q0 := 0) hx hb hml hown htg hN hK hX0 (c_X8_undo l dC dI cy hlt x F P res h) (g_V gw746 gw747 gw748 gw59 gw749) hdV_X8_undo rfl ⟨⟨Nat.le_of_ble_eq_true rfl, Nat.le_of_ble_eq_true rfl⟩, Nat.le_of_ble_eq_true rfl, Nat.le_of_ble_eq_true rfl⟩ hP hD hS hA ⟨rfl, rfl⟩ rfl List.perm_append_comm (List.Perm.refl _) hl.1 rfl (Nat.le_of_ble_eq_true rfl) rfl rfl dL_undo_3 (fun H locs ret ho hP hD hS => ?_) (fun H locs k q ce ho hP hD hS h1 h2 h3 => ?_)
  · rcases hres : res.1 with k | v
    · rw [hres] at ho; cases ho
    rw [hres] at ho hE
    obtain rfl := Sum.inr.inj ho
    refine W.eq (g2 := F0 mm 6 ls [.int v, .int 0, .ref o]) rfl ?_
    refine lv_i2l (v := v.toInt64) hx hb dL_undo_6 rfl ?_
    refine va_last hx hb hK hP hD hS 0 4 rfl rfl vp01 dL_undo_7 (fun H locs hP hD hS => ?_)
    refine lv_goto (tgt := 14) hx hb dL_undo_8 (by decide) ?_
    refine lv_iconst (v := 0) hx hb dL_undo_14 (by decide) ?_
    exact hE H locs _ _ 15 ls hP hD hS (Nat.le_of_ble_eq_true rfl) (Nat.le_of_ble_eq_true rfl) dL_undo_15
  · rcases hres : res.1 with k2 | v
    · have hk2 := hk k2 hres
      rw [hres] at ho hE
      obtain rfl := Sum.inl.inj ho
      subst hk2
      refine vx_catch (own := RL) (name := exn 3) (E := exn 3) hown [] ⟨0, 8, 11, 15⟩ [] htab (fun z hz => by cases hz) rfl (by decide) (htg (Cond.classLink RL 15 (exn 3)) gw428) (va_Nw.use (XWs_on _ XW3) (hX0.2.2.2 _ XW3)) h1 h2 h3 ?_
      refine lv_astore_n (lv' := [(2, .ref q), (0, .ref (x 0)), (1, .ref o)]) hx hb dL_undo_11 rfl hl (by decide) rfl (fun ls hl => ?_)
      refine lv_iconst (v := 1) hx hb dL_undo_12 (by decide) ?_
      exact hE H locs _ _ 13 ls hP hD hS (Nat.le_of_ble_eq_true rfl) (Nat.le_of_ble_eq_true rfl) dL_undo_13
    · rw [hres] at ho; cases ho
theorem cw_whyNot : Cond.codeWith yL_whyNot cL_whyNot 7 (some .int) [(0, 14, 17, 28)] ∈ GW := gw_of 757 (by decide +kernel) rfl
abbrev rmL_whyNot : Room := { frames := 8, cells := 1, slots := 6, locals := 138 }
theorem hdL_whyNot : yL_whyNot.cls ≠ "java/lang/invoke/MethodHandle" ∧ yL_whyNot.cls ≠ "java/lang/invoke/VarHandle" ∧ (parseMethodDescriptor yL_whyNot.desc).map (fun d => d.parameters.length) = some 6 := by decide +kernel
set_option maxHeartbeats 4000000 in
set_option maxRecDepth 100000 in
theorem c_L_whyNot (l : Launch) (dC : Nat → ClassId) (dI : Nat → Nat → Nat) (cy : Nat → ClassId) (hlt : l.stackTraces = false) (x : Nat → Nat) (F : Fig) (D : Fig) (p1 : Int32) (p2 : Int32) (p3 : Int32) (p4 : Int32) (res : (Sum Nat Int32) × Fig) (h : G_X8_whyNot F D p1 p2 p3 p4 = some res) (o : Nat) (g : Nat → Int64) (hk : ∀ k, res.1 = .inl k → k = 1) : LW l (dC, dI) (TY cy) yL_whyNot cL_whyNot 7 [(0, 14, 17, 28)] rmL_whyNot [.ref (x 0), .int p1, .int p2, .int p3, .int p4, .ref o] (wLA o cy g ++ (wSPo x ++ wFig (fun j => x (1 + j)) cy F ++ wFig (fun j => x (6 + j)) cy D)) (wLA o cy (lo g res.1) ++ (wSPo x ++ wFig (fun j => x (1 + j)) cy F ++ wFig (fun j => x (6 + j)) cy res.2)) (some (.int (lk 1 res.1))) := by
  refine LW.mk ⟨by decide, rfl⟩ (Nat.le_of_ble_eq_true rfl) ?_
  intro p e s mm args below meth cd A Q hx hb hml hown htab htg hN hK hX0 hNC hA hP hD hS hE ls hl
  have hl : lv_has ls 7 [(0, .ref (x 0)), (1, .int p1), (2, .int p2), (3, .int p3), (4, .int p4), (5, .ref o)] := hl
  obtain ⟨H, hH⟩ : ∃ H, H = s.heap := ⟨_, rfl⟩
  obtain ⟨locs, hlocs⟩ : ∃ locs : List Loc, locs = [] := ⟨_, rfl⟩
  rw [← hlocs] at hS ⊢
  have hS : va_S A s.heap H locs := by rw [hH]; exact hS
  rw [← hH] at hP ⊢
  refine lv_aload hx hb dL_whyNot_0 (lv_at hl 5 rfl) ?_
  refine lv_iconst (v := 0) hx hb dL_whyNot_2 (by decide) ?_
  refine lv_aload_n hx hb dL_whyNot_3 rfl (lv_at hl 0 rfl) ?_
  refine lv_iload_n hx hb dL_whyNot_4 rfl (lv_at hl 1 rfl) ?_
  refine lv_iload_n hx hb dL_whyNot_5 rfl (lv_at hl 2 rfl) ?_
  refine lv_iload_n hx hb dL_whyNot_6 rfl (lv_at hl 3 rfl) ?_
  refine lv_iload hx hb dL_whyNot_7 (lv_at hl 4 rfl) ?_
  refine cXVp (av := [.int p1, .int p2, .int p3, .int p4]) (rest := [.int 0, .ref o]) (k1 := 1) (k2 := 6) (wn := wLA o cy g ++ (wSPo x ++ wFig (fun j => x (1 + j)) cy F ++ wFig (fun j => x (6 + j)) cy res.2)) (ci := 3) (q0 := 0) hx hb hml hown htg hN hK hX0 (c_X8_whyNot l dC dI cy hlt x F D p1 p2 p3 p4 res h) (g_V gw758 gw759 gw760 gw59 gw761) hdV_X8_whyNot rfl ⟨⟨Nat.le_of_ble_eq_true rfl, Nat.le_of_ble_eq_true rfl⟩, Nat.le_of_ble_eq_true rfl, Nat.le_of_ble_eq_true rfl⟩ hP hD hS hA ⟨rfl, rfl⟩ rfl List.perm_append_comm (List.Perm.refl _) hl.1 rfl (Nat.le_of_ble_eq_true rfl) rfl rfl dL_whyNot_9 (fun H locs ret ho hP hD hS => ?_) (fun H locs k q ce ho hP hD hS h1 h2 h3 => ?_)
  · rcases hres : res.1 with k | v
    · rw [hres] at ho; cases ho
    rw [hres] at ho hE
    obtain rfl := Sum.inr.inj ho
    refine W.eq (g2 := F0 mm 12 ls [.int v, .int 0, .ref o]) rfl ?_
    refine lv_i2l (v := v.toInt64) hx hb dL_whyNot_12 rfl ?_
    refine va_last hx hb hK hP hD hS 0 4 rfl rfl vp01 dL_whyNot_13 (fun H locs hP hD hS => ?_)
    refine lv_goto (tgt := 21) hx hb dL_whyNot_14 (by decide) ?_
    refine lv_iconst (v := 0) hx hb dL_whyNot_21 (by decide) ?_
    exact hE H locs _ _ 22 ls hP hD hS (Nat.le_of_ble_eq_true rfl) (Nat.le_of_ble_eq_true rfl) dL_whyNot_22
  · rcases hres : res.1 with k2 | v
    · have hk2 := hk k2 hres
      rw [hres] at ho hE
      obtain rfl := Sum.inl.inj ho
      subst hk2
      refine vx_catch (own := RL) (name := exn 1) (E := exn 1) hown [] ⟨0, 14, 17, 28⟩ [] htab (fun z hz => by cases hz) rfl (by decide) (htg (Cond.classLink RL 28 (exn 1)) gw577) (va_Nw.use (XWs_on _ XW1) (hX0.2.2.2 _ XW1)) h1 h2 h3 ?_
      refine lv_astore (lv' := [(6, .ref q), (0, .ref (x 0)), (1, .int p1), (2, .int p2), (3, .int p3), (4, .int p4), (5, .ref o)]) hx hb dL_whyNot_17 hl (by decide) rfl (fun ls hl => ?_)
      refine lv_iconst (v := 1) hx hb dL_whyNot_19 (by decide) ?_
      exact hE H locs _ _ 20 ls hP hD hS (Nat.le_of_ble_eq_true rfl) (Nat.le_of_ble_eq_true rfl) dL_whyNot_20
    · rw [hres] at ho; cases ho
theorem cw_cut : Cond.codeWith yL_cut cL_cut 4 (some .int) [(0, 9, 12, 28)] ∈ GW := gw_of 766 (by decide +kernel) rfl
abbrev rmL_cut : Room := { frames := 8, cells := 1, slots := 6, locals := 143 }
theorem hdL_cut : yL_cut.cls ≠ "java/lang/invoke/MethodHandle" ∧ yL_cut.cls ≠ "java/lang/invoke/VarHandle" ∧ (parseMethodDescriptor yL_cut.desc).map (fun d => d.parameters.length) = some 3 := by decide +kernel
set_option maxHeartbeats 4000000 in
set_option maxRecDepth 100000 in
theorem c_L_cut (l : Launch) (dC : Nat → ClassId) (dI : Nat → Nat → Nat) (cy : Nat → ClassId) (hlt : l.stackTraces = false) (x : Nat → Nat) (F : Fig) (p1 : Int32) (res : (Sum Nat Int32)) (h : G_X8_cut F p1 = some res) (o : Nat) (g : Nat → Int64) (hk : ∀ k, res = .inl k → k = 1) : LW l (dC, dI) (TY cy) yL_cut cL_cut 4 [(0, 9, 12, 28)] rmL_cut [.ref (x 0), .int p1, .ref o] (wLA o cy g ++ (wSPo x ++ wFig (fun j => x (1 + j)) cy F)) (wLA o cy (lo g res) ++ (wSPo x ++ wFig (fun j => x (1 + j)) cy F)) (some (.int (lk 1 res))) := by
  refine LW.mk ⟨by decide, rfl⟩ (Nat.le_of_ble_eq_true rfl) ?_
  intro p e s mm args below meth cd A Q hx hb hml hown htab htg hN hK hX0 hNC hA hP hD hS hE ls hl
  have hl : lv_has ls 4 [(0, .ref (x 0)), (1, .int p1), (2, .ref o)] := hl
  obtain ⟨H, hH⟩ : ∃ H, H = s.heap := ⟨_, rfl⟩
  obtain ⟨locs, hlocs⟩ : ∃ locs : List Loc, locs = [] := ⟨_, rfl⟩
  rw [← hlocs] at hS ⊢
  have hS : va_S A s.heap H locs := by rw [hH]; exact hS
  rw [← hH] at hP ⊢
  refine lv_aload_n hx hb dL_cut_0 rfl (lv_at hl 2 rfl) ?_
  refine lv_iconst (v := 0) hx hb dL_cut_1 (by decide) ?_
  refine lv_aload_n hx hb dL_cut_2 rfl (lv_at hl 0 rfl) ?_
  refine lv_iload_n hx hb dL_cut_3 rfl (lv_at hl 1 rfl) ?_
  refine cXVp (av := [.int p1]) (rest := [.int 0, .ref o]) (k1 := 1) (k2 := 6) (wn := wLA o cy g ++ (wSPo x ++ wFig (fun j => x (1 + j)) cy F)) (ci := 3) (q0 := 0) hx hb hml hown htg hN hK hX0 (c_X8_cut l dC dI cy hlt x F p1 res h) (g_V gw767 gw768 gw769 gw59 gw770) hdV_X8_cut rfl ⟨⟨Nat.le_of_ble_eq_true rfl, Nat.le_of_ble_eq_true rfl⟩, Nat.le_of_ble_eq_true rfl, Nat.le_of_ble_eq_true rfl⟩ hP hD hS hA ⟨rfl, rfl⟩ rfl List.perm_append_comm (List.Perm.refl _) hl.1 rfl (Nat.le_of_ble_eq_true rfl) rfl rfl dL_cut_4 (fun H locs ret ho hP hD hS => ?_) (fun H locs k q ce ho hP hD hS h1 h2 h3 => ?_)
  · rcases hres : res with k | v
    · rw [hres] at ho; cases ho
    rw [hres] at ho hE
    obtain rfl := Sum.inr.inj ho
    refine W.eq (g2 := F0 mm 7 ls [.int v, .int 0, .ref o]) rfl ?_
    refine lv_i2l (v := v.toInt64) hx hb dL_cut_7 rfl ?_
    refine va_last hx hb hK hP hD hS 0 4 rfl rfl vp01 dL_cut_8 (fun H locs hP hD hS => ?_)
    refine lv_goto (tgt := 15) hx hb dL_cut_9 (by decide) ?_
    refine lv_iconst (v := 0) hx hb dL_cut_15 (by decide) ?_
    exact hE H locs _ _ 16 ls hP hD hS (Nat.le_of_ble_eq_true rfl) (Nat.le_of_ble_eq_true rfl) dL_cut_16
  · rcases hres : res with k2 | v
    · have hk2 := hk k2 hres
      rw [hres] at ho hE
      obtain rfl := Sum.inl.inj ho
      subst hk2
      refine vx_catch (own := RL) (name := exn 1) (E := exn 1) hown [] ⟨0, 9, 12, 28⟩ [] htab (fun z hz => by cases hz) rfl (by decide) (htg (Cond.classLink RL 28 (exn 1)) gw577) (va_Nw.use (XWs_on _ XW1) (hX0.2.2.2 _ XW1)) h1 h2 h3 ?_
      refine lv_astore_n (lv' := [(3, .ref q), (0, .ref (x 0)), (1, .int p1), (2, .ref o)]) hx hb dL_cut_12 rfl hl (by decide) rfl (fun ls hl => ?_)
      refine lv_iconst (v := 1) hx hb dL_cut_13 (by decide) ?_
      exact hE H locs _ _ 14 ls hP hD hS (Nat.le_of_ble_eq_true rfl) (Nat.le_of_ble_eq_true rfl) dL_cut_14
    · rw [hres] at ho; cases ho
theorem cw_inRow : Cond.codeWith yL_inRow cL_inRow 5 (some .int) [(0, 10, 13, 13)] ∈ GW := gw_of 774 (by decide +kernel) rfl
abbrev rmL_inRow : Room := { frames := 7, cells := 1, slots := 6, locals := 125 }
theorem hdL_inRow : yL_inRow.cls ≠ "java/lang/invoke/MethodHandle" ∧ yL_inRow.cls ≠ "java/lang/invoke/VarHandle" ∧ (parseMethodDescriptor yL_inRow.desc).map (fun d => d.parameters.length) = some 4 := by decide +kernel
set_option maxHeartbeats 4000000 in
set_option maxRecDepth 100000 in
theorem c_L_inRow (l : Launch) (dC : Nat → ClassId) (dI : Nat → Nat → Nat) (cy : Nat → ClassId) (hlt : l.stackTraces = false) (x : Nat → Nat) (F : Fig) (p1 : Int32) (p2 : Int32) (res : (Sum Nat Int32)) (h : G_X8_inRow F p1 p2 = some res) (o : Nat) (g : Nat → Int64) (hk : ∀ k, res = .inl k → k = 2) : LW l (dC, dI) (TY cy) yL_inRow cL_inRow 5 [(0, 10, 13, 13)] rmL_inRow [.ref (x 0), .int p1, .int p2, .ref o] (wLA o cy g ++ (wSPo x ++ wFig (fun j => x (1 + j)) cy F)) (wLA o cy (lo g res) ++ (wSPo x ++ wFig (fun j => x (1 + j)) cy F)) (some (.int (lk 2 res))) := by
  refine LW.mk ⟨by decide, rfl⟩ (Nat.le_of_ble_eq_true rfl) ?_
  intro p e s mm args below meth cd A Q hx hb hml hown htab htg hN hK hX0 hNC hA hP hD hS hE ls hl
  have hl : lv_has ls 5 [(0, .ref (x 0)), (1, .int p1), (2, .int p2), (3, .ref o)] := hl
  obtain ⟨H, hH⟩ : ∃ H, H = s.heap := ⟨_, rfl⟩
  obtain ⟨locs, hlocs⟩ : ∃ locs : List Loc, locs = [] := ⟨_, rfl⟩
  rw [← hlocs] at hS ⊢
  have hS : va_S A s.heap H locs := by rw [hH]; exact hS
  rw [← hH] at hP ⊢
  refine lv_aload_n hx hb dL_inRow_0 rfl (lv_at hl 3 rfl) ?_
  refine lv_iconst (v := 0) hx hb dL_inRow_1 (by decide) ?_
  refine lv_aload_n hx hb dL_inRow_2 rfl (lv_at hl 0 rfl) ?_
  refine lv_iload_n hx hb dL_inRow_3 rfl (lv_at hl 1 rfl) ?_
  refine lv_iload_n hx hb dL_inRow_4 rfl (lv_at hl 2 rfl) ?_
  refine cXVp (av := [.int p1, .int p2]) (rest := [.int 0, .ref o]) (k1 := 1) (k2 := 6) (wn := wLA o cy g ++ (wSPo x ++ wFig (fun j => x (1 + j)) cy F)) (ci := 3) (q0 := 0) hx hb hml hown htg hN hK hX0 (c_X8_inRow l dC dI cy hlt x F p1 p2 res h) (g_V gw775 gw776 gw777 gw59 gw778) hdV_X8_inRow rfl ⟨⟨Nat.le_of_ble_eq_true rfl, Nat.le_of_ble_eq_true rfl⟩, Nat.le_of_ble_eq_true rfl, Nat.le_of_ble_eq_true rfl⟩ hP hD hS hA ⟨rfl, rfl⟩ rfl List.perm_append_comm (List.Perm.refl _) hl.1 rfl (Nat.le_of_ble_eq_true rfl) rfl rfl dL_inRow_5 (fun H locs ret ho hP hD hS => ?_) (fun H locs k q ce ho hP hD hS h1 h2 h3 => ?_)
  · rcases hres : res with k | v
    · rw [hres] at ho; cases ho
    rw [hres] at ho hE
    obtain rfl := Sum.inr.inj ho
    refine W.eq (g2 := F0 mm 8 ls [.int v, .int 0, .ref o]) rfl ?_
    refine lv_i2l (v := v.toInt64) hx hb dL_inRow_8 rfl ?_
    refine va_last hx hb hK hP hD hS 0 4 rfl rfl vp01 dL_inRow_9 (fun H locs hP hD hS => ?_)
    refine lv_goto (tgt := 17) hx hb dL_inRow_10 (by decide) ?_
    refine lv_iconst (v := 0) hx hb dL_inRow_17 (by decide) ?_
    exact hE H locs _ _ 18 ls hP hD hS (Nat.le_of_ble_eq_true rfl) (Nat.le_of_ble_eq_true rfl) dL_inRow_18
  · rcases hres : res with k2 | v
    · have hk2 := hk k2 hres
      rw [hres] at ho hE
      obtain rfl := Sum.inl.inj ho
      subst hk2
      refine vx_catch (own := RL) (name := exn 2) (E := exn 2) hown [] ⟨0, 10, 13, 13⟩ [] htab (fun z hz => by cases hz) rfl (by decide) (htg (Cond.classLink RL 13 (exn 2)) gw427) (va_Nw.use (XWs_on _ XW2) (hX0.2.2.2 _ XW2)) h1 h2 h3 ?_
      refine lv_astore (lv' := [(4, .ref q), (0, .ref (x 0)), (1, .int p1), (2, .int p2), (3, .ref o)]) hx hb dL_inRow_13 hl (by decide) rfl (fun ls hl => ?_)
      refine lv_iconst (v := 1) hx hb dL_inRow_15 (by decide) ?_
      exact hE H locs _ _ 16 ls hP hD hS (Nat.le_of_ble_eq_true rfl) (Nat.le_of_ble_eq_true rfl) dL_inRow_16
    · rw [hres] at ho; cases ho
theorem cw_runScript : Cond.codeWith yL_runScript cL_runScript 6 (some .int) [(0, 11, 14, 13)] ∈ GW := gw_of 782 (by decide +kernel) rfl
abbrev rmL_runScript : Room := { frames := 8, cells := 1, slots := 6, locals := 189 }
theorem hdL_runScript : yL_runScript.cls ≠ "java/lang/invoke/MethodHandle" ∧ yL_runScript.cls ≠ "java/lang/invoke/VarHandle" ∧ (parseMethodDescriptor yL_runScript.desc).map (fun d => d.parameters.length) = some 4 := by decide +kernel
set_option maxHeartbeats 4000000 in
set_option maxRecDepth 100000 in
theorem c_L_runScript (l : Launch) (dC : Nat → ClassId) (dI : Nat → Nat → Nat) (cy : Nat → ClassId) (hlt : l.stackTraces = false) (x : Nat → Nat) (F : Fig) (D : Fig) (p1 : Int32) (p2 : Int64) (res : (Sum Nat Int32) × Fig) (h : G_X8_runScript F D p1 p2 = some res) (o : Nat) (g : Nat → Int64) (hk : ∀ k, res.1 = .inl k → k = 2) : LW l (dC, dI) (TY cy) yL_runScript cL_runScript 6 [(0, 11, 14, 13)] rmL_runScript [.ref (x 0), .int p1, .long p2, .ref o] (wLA o cy g ++ (wSPo x ++ wFig (fun j => x (1 + j)) cy F ++ wFig (fun j => x (6 + j)) cy D)) (wLA o cy (lo g res.1) ++ (wSPo x ++ wFig (fun j => x (1 + j)) cy F ++ wFig (fun j => x (6 + j)) cy res.2)) (some (.int (lk 2 res.1))) := by
  refine LW.mk ⟨by decide, rfl⟩ (Nat.le_of_ble_eq_true rfl) ?_
  intro p e s mm args below meth cd A Q hx hb hml hown htab htg hN hK hX0 hNC hA hP hD hS hE ls hl
  have hl : lv_has ls 6 [(0, .ref (x 0)), (1, .int p1), (2, .long p2), (4, .ref o)] := hl
  obtain ⟨H, hH⟩ : ∃ H, H = s.heap := ⟨_, rfl⟩
  obtain ⟨locs, hlocs⟩ : ∃ locs : List Loc, locs = [] := ⟨_, rfl⟩
  rw [← hlocs] at hS ⊢
  have hS : va_S A s.heap H locs := by rw [hH]; exact hS
  rw [← hH] at hP ⊢
  refine lv_aload hx hb dL_runScript_0 (lv_at hl 3 rfl) ?_
  refine lv_iconst (v := 0) hx hb dL_runScript_2 (by decide) ?_
  refine lv_aload_n hx hb dL_runScript_3 rfl (lv_at hl 0 rfl) ?_
  refine lv_iload_n hx hb dL_runScript_4 rfl (lv_at hl 1 rfl) ?_
  refine lv_lload_n hx hb dL_runScript_5 rfl (lv_at hl 2 rfl) ?_
  refine cXVp (av := [.int p1, .long p2]) (rest := [.int 0, .ref o]) (k1 := 1) (k2 := 6) (wn := wLA o cy g ++ (wSPo x ++ wFig (fun j => x (1 + j)) cy F ++ wFig (fun j => x (6 + j)) cy res.2)) (ci := 3) (q0 := 0) hx hb hml hown htg hN hK hX0 (c_X8_runScript l dC dI cy hlt x F D p1 p2 res h) (g_V gw783 gw784 gw785 gw59 gw786) hdV_X8_runScript rfl ⟨⟨Nat.le_of_ble_eq_true rfl, Nat.le_of_ble_eq_true rfl⟩, Nat.le_of_ble_eq_true rfl, Nat.le_of_ble_eq_true rfl⟩ hP hD hS hA ⟨rfl, rfl⟩ rfl List.perm_append_comm (List.Perm.refl _) hl.1 rfl (Nat.le_of_ble_eq_true rfl) rfl rfl dL_runScript_6 (fun H locs ret ho hP hD hS => ?_) (fun H locs k q ce ho hP hD hS h1 h2 h3 => ?_)
  · rcases hres : res.1 with k | v
    · rw [hres] at ho; cases ho
    rw [hres] at ho hE
    obtain rfl := Sum.inr.inj ho
    refine W.eq (g2 := F0 mm 9 ls [.int v, .int 0, .ref o]) rfl ?_
    refine lv_i2l (v := v.toInt64) hx hb dL_runScript_9 rfl ?_
    refine va_last hx hb hK hP hD hS 0 4 rfl rfl vp01 dL_runScript_10 (fun H locs hP hD hS => ?_)
    refine lv_goto (tgt := 18) hx hb dL_runScript_11 (by decide) ?_
    refine lv_iconst (v := 0) hx hb dL_runScript_18 (by decide) ?_
    exact hE H locs _ _ 19 ls hP hD hS (Nat.le_of_ble_eq_true rfl) (Nat.le_of_ble_eq_true rfl) dL_runScript_19
  · rcases hres : res.1 with k2 | v
    · have hk2 := hk k2 hres
      rw [hres] at ho hE
      obtain rfl := Sum.inl.inj ho
      subst hk2
      refine vx_catch (own := RL) (name := exn 2) (E := exn 2) hown [] ⟨0, 11, 14, 13⟩ [] htab (fun z hz => by cases hz) rfl (by decide) (htg (Cond.classLink RL 13 (exn 2)) gw427) (va_Nw.use (XWs_on _ XW2) (hX0.2.2.2 _ XW2)) h1 h2 h3 ?_
      refine lv_astore (lv' := [(5, .ref q), (0, .ref (x 0)), (1, .int p1), (2, .long p2), (4, .ref o)]) hx hb dL_runScript_14 hl (by decide) rfl (fun ls hl => ?_)
      refine lv_iconst (v := 1) hx hb dL_runScript_16 (by decide) ?_
      exact hE H locs _ _ 17 ls hP hD hS (Nat.le_of_ble_eq_true rfl) (Nat.le_of_ble_eq_true rfl) dL_runScript_17
    · rw [hres] at ho; cases ho
theorem cw_simulate : Cond.codeWith yL_simulate cL_simulate 6 (some .int) [(0, 11, 14, 13)] ∈ GW := gw_of 813 (by decide +kernel) rfl
abbrev rmL_simulate : Room := { frames := 8, cells := 1, slots := 6, locals := 193 }
theorem hdL_simulate : yL_simulate.cls ≠ "java/lang/invoke/MethodHandle" ∧ yL_simulate.cls ≠ "java/lang/invoke/VarHandle" ∧ (parseMethodDescriptor yL_simulate.desc).map (fun d => d.parameters.length) = some 4 := by decide +kernel
set_option maxHeartbeats 4000000 in
set_option maxRecDepth 100000 in
theorem c_L_simulate (l : Launch) (dC : Nat → ClassId) (dI : Nat → Nat → Nat) (cy : Nat → ClassId) (hlt : l.stackTraces = false) (x : Nat → Nat) (F : Fig) (D : Fig) (p1 : Int64) (p3 : Int32) (res : (Sum Nat Int32) × Fig) (h : G_X8_simulate F D p1 p3 = some res) (o : Nat) (g : Nat → Int64) (hk : ∀ k, res.1 = .inl k → k = 2) : LW l (dC, dI) (TY cy) yL_simulate cL_simulate 6 [(0, 11, 14, 13)] rmL_simulate [.ref (x 0), .long p1, .int p3, .ref o] (wLA o cy g ++ (wSPo x ++ wFig (fun j => x (1 + j)) cy F ++ wFig (fun j => x (6 + j)) cy D)) (wLA o cy (lo g res.1) ++ (wSPo x ++ wFig (fun j => x (1 + j)) cy F ++ wFig (fun j => x (6 + j)) cy res.2)) (some (.int (lk 2 res.1))) := by
  refine LW.mk ⟨by decide, rfl⟩ (Nat.le_of_ble_eq_true rfl) ?_
  intro p e s mm args below meth cd A Q hx hb hml hown htab htg hN hK hX0 hNC hA hP hD hS hE ls hl
  have hl : lv_has ls 6 [(0, .ref (x 0)), (1, .long p1), (3, .int p3), (4, .ref o)] := hl
  obtain ⟨H, hH⟩ : ∃ H, H = s.heap := ⟨_, rfl⟩
  obtain ⟨locs, hlocs⟩ : ∃ locs : List Loc, locs = [] := ⟨_, rfl⟩
  rw [← hlocs] at hS ⊢
  have hS : va_S A s.heap H locs := by rw [hH]; exact hS
  rw [← hH] at hP ⊢
  refine lv_aload hx hb dL_simulate_0 (lv_at hl 3 rfl) ?_
  refine lv_iconst (v := 0) hx hb dL_simulate_2 (by decide) ?_
  refine lv_aload_n hx hb dL_simulate_3 rfl (lv_at hl 0 rfl) ?_
  refine lv_lload_n hx hb dL_simulate_4 rfl (lv_at hl 1 rfl) ?_
  refine lv_iload_n hx hb dL_simulate_5 rfl (lv_at hl 2 rfl) ?_
  refine cXVp (av := [.long p1, .int p3]) (rest := [.int 0, .ref o]) (k1 := 1) (k2 := 6) (wn := wLA o cy g ++ (wSPo x ++ wFig (fun j => x (1 + j)) cy F ++ wFig (fun j => x (6 + j)) cy res.2)) (ci := 3) (q0 := 0) hx hb hml hown htg hN hK hX0 (c_X8_simulate l dC dI cy hlt x F D p1 p3 res h) (g_V gw814 gw815 gw816 gw59 gw817) hdV_X8_simulate rfl ⟨⟨Nat.le_of_ble_eq_true rfl, Nat.le_of_ble_eq_true rfl⟩, Nat.le_of_ble_eq_true rfl, Nat.le_of_ble_eq_true rfl⟩ hP hD hS hA ⟨rfl, rfl⟩ rfl List.perm_append_comm (List.Perm.refl _) hl.1 rfl (Nat.le_of_ble_eq_true rfl) rfl rfl dL_simulate_6 (fun H locs ret ho hP hD hS => ?_) (fun H locs k q ce ho hP hD hS h1 h2 h3 => ?_)
  · rcases hres : res.1 with k | v
    · rw [hres] at ho; cases ho
    rw [hres] at ho hE
    obtain rfl := Sum.inr.inj ho
    refine W.eq (g2 := F0 mm 9 ls [.int v, .int 0, .ref o]) rfl ?_
    refine lv_i2l (v := v.toInt64) hx hb dL_simulate_9 rfl ?_
    refine va_last hx hb hK hP hD hS 0 4 rfl rfl vp01 dL_simulate_10 (fun H locs hP hD hS => ?_)
    refine lv_goto (tgt := 18) hx hb dL_simulate_11 (by decide) ?_
    refine lv_iconst (v := 0) hx hb dL_simulate_18 (by decide) ?_
    exact hE H locs _ _ 19 ls hP hD hS (Nat.le_of_ble_eq_true rfl) (Nat.le_of_ble_eq_true rfl) dL_simulate_19
  · rcases hres : res.1 with k2 | v
    · have hk2 := hk k2 hres
      rw [hres] at ho hE
      obtain rfl := Sum.inl.inj ho
      subst hk2
      refine vx_catch (own := RL) (name := exn 2) (E := exn 2) hown [] ⟨0, 11, 14, 13⟩ [] htab (fun z hz => by cases hz) rfl (by decide) (htg (Cond.classLink RL 13 (exn 2)) gw427) (va_Nw.use (XWs_on _ XW2) (hX0.2.2.2 _ XW2)) h1 h2 h3 ?_
      refine lv_astore (lv' := [(5, .ref q), (0, .ref (x 0)), (1, .long p1), (3, .int p3), (4, .ref o)]) hx hb dL_simulate_14 hl (by decide) rfl (fun ls hl => ?_)
      refine lv_iconst (v := 1) hx hb dL_simulate_16 (by decide) ?_
      exact hE H locs _ _ 17 ls hP hD hS (Nat.le_of_ble_eq_true rfl) (Nat.le_of_ble_eq_true rfl) dL_simulate_17
    · rw [hres] at ho; cases ho
theorem cw_save : Cond.codeWith yL_save cL_save 4 (some .int) [(0, 9, 12, 28)] ∈ GW := gw_of 823 (by decide +kernel) rfl
abbrev rmL_save : Room := { frames := 8, cells := 1, slots := 6, locals := 123 }
theorem hdL_save : yL_save.cls ≠ "java/lang/invoke/MethodHandle" ∧ yL_save.cls ≠ "java/lang/invoke/VarHandle" ∧ (parseMethodDescriptor yL_save.desc).map (fun d => d.parameters.length) = some 3 := by decide +kernel
set_option maxHeartbeats 4000000 in
set_option maxRecDepth 100000 in
theorem c_L_save (l : Launch) (dC : Nat → ClassId) (dI : Nat → Nat → Nat) (cy : Nat → ClassId) (hlt : l.stackTraces = false) (x : Nat → Nat) (F : Fig) (SL : Nat → Fig) (SV : Nat → Int32) (p1 : Int32) (res : (Sum Nat Int32) × (Nat → Fig) × (Nat → Int32)) (h : G_X8_save F SL SV p1 = some res) (o : Nat) (g : Nat → Int64) (hk : ∀ k, res.1 = .inl k → k = 1) : LW l (dC, dI) (TY cy) yL_save cL_save 4 [(0, 9, 12, 28)] rmL_save [.ref (x 0), .int p1, .ref o] (wLA o cy g ++ (wSPo x ++ wFig (fun j => x (1 + j)) cy F ++ wSlots (fun j => x (83 + j)) cy SL ++ wBA (x 94) cy SV)) (wLA o cy (lo g res.1) ++ (wSPo x ++ wFig (fun j => x (1 + j)) cy F ++ wSlots (fun j => x (83 + j)) cy res.2.1 ++ wBA (x 94) cy res.2.2)) (some (.int (lk 1 res.1))) := by
  refine LW.mk ⟨by decide, rfl⟩ (Nat.le_of_ble_eq_true rfl) ?_
  intro p e s mm args below meth cd A Q hx hb hml hown htab htg hN hK hX0 hNC hA hP hD hS hE ls hl
  have hl : lv_has ls 4 [(0, .ref (x 0)), (1, .int p1), (2, .ref o)] := hl
  obtain ⟨H, hH⟩ : ∃ H, H = s.heap := ⟨_, rfl⟩
  obtain ⟨locs, hlocs⟩ : ∃ locs : List Loc, locs = [] := ⟨_, rfl⟩
  rw [← hlocs] at hS ⊢
  have hS : va_S A s.heap H locs := by rw [hH]; exact hS
  rw [← hH] at hP ⊢
  refine lv_aload_n hx hb dL_save_0 rfl (lv_at hl 2 rfl) ?_
  refine lv_iconst (v := 0) hx hb dL_save_1 (by decide) ?_
  refine lv_aload_n hx hb dL_save_2 rfl (lv_at hl 0 rfl) ?_
  refine lv_iload_n hx hb dL_save_3 rfl (lv_at hl 1 rfl) ?_
  refine cXVp (av := [.int p1]) (rest := [.int 0, .ref o]) (k1 := 1) (k2 := 6) (wn := wLA o cy g ++ (wSPo x ++ wFig (fun j => x (1 + j)) cy F ++ wSlots (fun j => x (83 + j)) cy res.2.1 ++ wBA (x 94) cy res.2.2)) (ci := 3) (q0 := 0) hx hb hml hown htg hN hK hX0 (c_X8_save l dC dI cy hlt x F SL SV p1 res h) (g_V gw824 gw825 gw826 gw59 gw827) hdV_X8_save rfl ⟨⟨Nat.le_of_ble_eq_true rfl, Nat.le_of_ble_eq_true rfl⟩, Nat.le_of_ble_eq_true rfl, Nat.le_of_ble_eq_true rfl⟩ hP hD hS hA ⟨rfl, rfl⟩ rfl List.perm_append_comm (List.Perm.refl _) hl.1 rfl (Nat.le_of_ble_eq_true rfl) rfl rfl dL_save_4 (fun H locs ret ho hP hD hS => ?_) (fun H locs k q ce ho hP hD hS h1 h2 h3 => ?_)
  · rcases hres : res.1 with k | v
    · rw [hres] at ho; cases ho
    rw [hres] at ho hE
    obtain rfl := Sum.inr.inj ho
    refine W.eq (g2 := F0 mm 7 ls [.int v, .int 0, .ref o]) rfl ?_
    refine lv_i2l (v := v.toInt64) hx hb dL_save_7 rfl ?_
    refine va_last hx hb hK hP hD hS 0 4 rfl rfl vp01 dL_save_8 (fun H locs hP hD hS => ?_)
    refine lv_goto (tgt := 15) hx hb dL_save_9 (by decide) ?_
    refine lv_iconst (v := 0) hx hb dL_save_15 (by decide) ?_
    exact hE H locs _ _ 16 ls hP hD hS (Nat.le_of_ble_eq_true rfl) (Nat.le_of_ble_eq_true rfl) dL_save_16
  · rcases hres : res.1 with k2 | v
    · have hk2 := hk k2 hres
      rw [hres] at ho hE
      obtain rfl := Sum.inl.inj ho
      subst hk2
      refine vx_catch (own := RL) (name := exn 1) (E := exn 1) hown [] ⟨0, 9, 12, 28⟩ [] htab (fun z hz => by cases hz) rfl (by decide) (htg (Cond.classLink RL 28 (exn 1)) gw577) (va_Nw.use (XWs_on _ XW1) (hX0.2.2.2 _ XW1)) h1 h2 h3 ?_
      refine lv_astore_n (lv' := [(3, .ref q), (0, .ref (x 0)), (1, .int p1), (2, .ref o)]) hx hb dL_save_12 rfl hl (by decide) rfl (fun ls hl => ?_)
      refine lv_iconst (v := 1) hx hb dL_save_13 (by decide) ?_
      exact hE H locs _ _ 14 ls hP hD hS (Nat.le_of_ble_eq_true rfl) (Nat.le_of_ble_eq_true rfl) dL_save_14
    · rw [hres] at ho; cases ho
theorem cw_restore : Cond.codeWith yL_restore cL_restore 4 (some .int) [(0, 9, 12, 28), (0, 9, 15, 15)] ∈ GW := gw_of 834 (by decide +kernel) rfl
abbrev rmL_restore : Room := { frames := 8, cells := 2, slots := 12, locals := 123 }
theorem hdL_restore : yL_restore.cls ≠ "java/lang/invoke/MethodHandle" ∧ yL_restore.cls ≠ "java/lang/invoke/VarHandle" ∧ (parseMethodDescriptor yL_restore.desc).map (fun d => d.parameters.length) = some 3 := by decide +kernel
set_option maxHeartbeats 4000000 in
set_option maxRecDepth 100000 in
theorem c_L_restore (l : Launch) (dC : Nat → ClassId) (dI : Nat → Nat → Nat) (cy : Nat → ClassId) (hlt : l.stackTraces = false) (x : Nat → Nat) (F : Fig) (P : PastS) (SL : Nat → Fig) (SV : Nat → Int32) (p1 : Int32) (res : (Sum Nat Int32) × Fig × PastS) (h : G_X8_restore F P SL SV p1 = some res) (o : Nat) (g : Nat → Int64) (hk : ∀ k, res.1 = .inl k → k = 1 ∨ k = 3) : LW l (dC, dI) (TY cy) yL_restore cL_restore 4 [(0, 9, 12, 28), (0, 9, 15, 15)] rmL_restore [.ref (x 0), .int p1, .ref o] (wLA o cy g ++ (wSPo x ++ wFig (fun j => x (1 + j)) cy F ++ wP2 (fun j => x (11 + j)) cy P ++ wSlots (fun j => x (83 + j)) cy SL ++ wBA (x 94) cy SV ++ wPF (fun j => x (11 + j)) cy (p_figs P))) (wLA o cy (lo g res.1) ++ (wSPo x ++ wFig (fun j => x (1 + j)) cy res.2.1 ++ wP2 (fun j => x (11 + j)) cy res.2.2 ++ wSlots (fun j => x (83 + j)) cy SL ++ wBA (x 94) cy SV ++ wPF (fun j => x (11 + j)) cy (p_figs res.2.2))) (some (.int (lk 1 res.1))) := by
  refine LW.mk ⟨by decide, rfl⟩ (Nat.le_of_ble_eq_true rfl) ?_
  intro p e s mm args below meth cd A Q hx hb hml hown htab htg hN hK hX0 hNC hA hP hD hS hE ls hl
  have hl : lv_has ls 4 [(0, .ref (x 0)), (1, .int p1), (2, .ref o)] := hl
  obtain ⟨H, hH⟩ : ∃ H, H = s.heap := ⟨_, rfl⟩
  obtain ⟨locs, hlocs⟩ : ∃ locs : List Loc, locs = [] := ⟨_, rfl⟩
  rw [← hlocs] at hS ⊢
  have hS : va_S A s.heap H locs := by rw [hH]; exact hS
  rw [← hH] at hP ⊢
  refine lv_aload_n hx hb dL_restore_0 rfl (lv_at hl 2 rfl) ?_
  refine lv_iconst (v := 0) hx hb dL_restore_1 (by decide) ?_
  refine lv_aload_n hx hb dL_restore_2 rfl (lv_at hl 0 rfl) ?_
  refine lv_iload_n hx hb dL_restore_3 rfl (lv_at hl 1 rfl) ?_
  refine cXVp (av := [.int p1]) (rest := [.int 0, .ref o]) (k1 := 2) (k2 := 12) (wn := wLA o cy g ++ (wSPo x ++ wFig (fun j => x (1 + j)) cy res.2.1 ++ wP2 (fun j => x (11 + j)) cy res.2.2 ++ wSlots (fun j => x (83 + j)) cy SL ++ wBA (x 94) cy SV ++ wPF (fun j => x (11 + j)) cy (p_figs res.2.2))) (ci := 3) (q0 := 0) hx hb hml hown htg hN hK hX0 (c_X8_restore l dC dI cy hlt x F P SL SV p1 res h) (g_V gw835 gw836 gw837 gw59 gw838) hdV_X8_restore rfl ⟨⟨Nat.le_of_ble_eq_true rfl, Nat.le_of_ble_eq_true rfl⟩, Nat.le_of_ble_eq_true rfl, Nat.le_of_ble_eq_true rfl⟩ hP hD hS hA ⟨rfl, rfl⟩ rfl List.perm_append_comm (List.Perm.refl _) hl.1 rfl (Nat.le_of_ble_eq_true rfl) rfl rfl dL_restore_4 (fun H locs ret ho hP hD hS => ?_) (fun H locs k q ce ho hP hD hS h1 h2 h3 => ?_)
  · rcases hres : res.1 with k | v
    · rw [hres] at ho; cases ho
    rw [hres] at ho hE
    obtain rfl := Sum.inr.inj ho
    refine W.eq (g2 := F0 mm 7 ls [.int v, .int 0, .ref o]) rfl ?_
    refine lv_i2l (v := v.toInt64) hx hb dL_restore_7 rfl ?_
    refine va_last hx hb hK hP hD hS 0 4 rfl rfl vp01 dL_restore_8 (fun H locs hP hD hS => ?_)
    refine lv_goto (tgt := 18) hx hb dL_restore_9 (by decide) ?_
    refine lv_iconst (v := 0) hx hb dL_restore_18 (by decide) ?_
    exact hE H locs _ _ 19 ls hP hD hS (Nat.le_of_ble_eq_true rfl) (Nat.le_of_ble_eq_true rfl) dL_restore_19
  · rcases hres : res.1 with k2 | v
    · have hk2 := hk k2 hres
      rw [hres] at ho hE
      obtain rfl := Sum.inl.inj ho
      rcases hk2 with rfl | rfl
      · skip
        refine vx_catch (own := RL) (name := exn 1) (E := exn 1) hown [] ⟨0, 9, 12, 28⟩ [⟨0, 9, 15, 15⟩] htab (fun z hz => by cases hz) rfl (by decide) (htg (Cond.classLink RL 28 (exn 1)) gw577) (va_Nw.use (XWs_on _ XW1) (hX0.2.2.2 _ XW1)) h1 h2 h3 ?_
        refine lv_astore_n (lv' := [(3, .ref q), (0, .ref (x 0)), (1, .int p1), (2, .ref o)]) hx hb dL_restore_12 rfl hl (by decide) rfl (fun ls hl => ?_)
        refine lv_iconst (v := 1) hx hb dL_restore_13 (by decide) ?_
        exact hE H locs _ _ 14 ls hP hD hS (Nat.le_of_ble_eq_true rfl) (Nat.le_of_ble_eq_true rfl) dL_restore_14
      · skip
        refine vx_catch (own := RL) (name := exn 3) (E := exn 3) hown [⟨0, 9, 12, 28⟩] ⟨0, 9, 15, 15⟩ [] htab (fun z hz => by obtain rfl := List.mem_singleton.mp hz; exact Or.inr ⟨by decide, exn 1, htg (Cond.classLink RL 28 (exn 1)) gw577, hNC 3 1 (by decide) (by decide) (by decide)⟩) rfl (by decide) (htg (Cond.classLink RL 15 (exn 3)) gw428) (va_Nw.use (XWs_on _ XW3) (hX0.2.2.2 _ XW3)) h1 h2 h3 ?_
        refine lv_astore_n (lv' := [(3, .ref q), (0, .ref (x 0)), (1, .int p1), (2, .ref o)]) hx hb dL_restore_15 rfl hl (by decide) rfl (fun ls hl => ?_)
        refine lv_iconst (v := 2) hx hb dL_restore_16 (by decide) ?_
        exact hE H locs _ _ 17 ls hP hD hS (Nat.le_of_ble_eq_true rfl) (Nat.le_of_ble_eq_true rfl) dL_restore_17
    · rw [hres] at ho; cases ho
