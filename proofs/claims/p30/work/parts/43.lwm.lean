theorem cw_move : Cond.codeWith yL_move cL_move 6 (some .int) [(0, 9, 10, 16), (0, 9, 14, 18)] ∈ GW := gw_of 326 (by decide +kernel) rfl
def G_L_move (F : Fig) (D : Fig) (P : PastS) (p1 : Int32) (p2 : Int32) (p3 : Int32) (p4 : Int32) : Option (Int32 × Fig × Fig × PastS) := (G_X8_move F D P p1 p2 p3 p4).bind fun v => (lkv 1 v.1).bind fun z => some (z, v.2)
abbrev rmL_move : Room := { frames := 8, cells := 2, slots := 12, locals := 162 }
theorem hdS_L_move : yL_move.cls ≠ "java/lang/invoke/MethodHandle" ∧ yL_move.cls ≠ "java/lang/invoke/VarHandle" ∧ (parseMethodDescriptor yL_move.desc).map (fun d => d.parameters.length) = some 5 := by decide +kernel
set_option maxHeartbeats 4000000 in
set_option maxRecDepth 100000 in
theorem c_L_move (l : Launch) (dC : Nat → ClassId) (dI : Nat → Nat → Nat) (cy : Nat → ClassId) (hlt : l.stackTraces = false) (x : Nat → Nat) (F : Fig) (D : Fig) (P : PastS) (p1 : Int32) (p2 : Int32) (p3 : Int32) (p4 : Int32) (res : Int32 × Fig × Fig × PastS) (h : G_L_move F D P p1 p2 p3 p4 = some res) : LW l (dC, dI) (TY cy) yL_move cL_move 6 [(0, 9, 10, 16), (0, 9, 14, 18)] rmL_move [.ref (x 0), .int p1, .int p2, .int p3, .int p4] (wSPo x ++ wFig (fun j => x (1 + j)) cy F ++ wFig (fun j => x (6 + j)) cy D ++ wP2 (fun j => x (11 + j)) cy P ++ wPF (fun j => x (11 + j)) cy (p_figs P)) (wSPo x ++ wFig (fun j => x (1 + j)) cy res.2.1 ++ wFig (fun j => x (6 + j)) cy res.2.2.1 ++ wP2 (fun j => x (11 + j)) cy res.2.2.2 ++ wPF (fun j => x (11 + j)) cy (p_figs res.2.2.2)) (some (.int res.1)) := by
  unfold G_L_move at h
  obtain ⟨v, ev, h⟩ := bnd h
  obtain ⟨z, ez, h⟩ := bnd h
  obtain rfl := Option.some.inj h
  refine LW.mk ⟨by decide, rfl⟩ (Nat.le_of_ble_eq_true rfl) ?_
  intro p e s mm args below meth cd A Q hx hb hml hown htab htg hN hK hX0 hNC hA hP hD hS hE ls hl
  have hl : lv_has ls 6 [(0, .ref (x 0)), (1, .int p1), (2, .int p2), (3, .int p3), (4, .int p4)] := hl
  obtain ⟨H, hH⟩ : ∃ H, H = s.heap := ⟨_, rfl⟩
  obtain ⟨locs, hlocs⟩ : ∃ locs : List Loc, locs = [] := ⟨_, rfl⟩
  rw [← hlocs] at hS ⊢
  have hS : va_S A s.heap H locs := by rw [hH]; exact hS
  rw [← hH] at hP ⊢
  refine lv_aload_n hx hb dL_move_0 rfl (lv_at hl 0 rfl) ?_
  refine lv_iload_n hx hb dL_move_1 rfl (lv_at hl 1 rfl) ?_
  refine lv_iload_n hx hb dL_move_2 rfl (lv_at hl 2 rfl) ?_
  refine lv_iload_n hx hb dL_move_3 rfl (lv_at hl 3 rfl) ?_
  refine lv_iload hx hb dL_move_4 (lv_at hl 4 rfl) ?_
  refine cXVp (av := [.int p1, .int p2, .int p3, .int p4]) (rest := []) (k1 := 2) (k2 := 12) (wn := wSPo x ++ wFig (fun j => x (1 + j)) cy v.2.1 ++ wFig (fun j => x (6 + j)) cy v.2.2.1 ++ wP2 (fun j => x (11 + j)) cy v.2.2.2 ++ wPF (fun j => x (11 + j)) cy (p_figs v.2.2.2)) (ci := 3) (q0 := 0) hx hb hml hown htg hN hK hX0 (c_X8_move l dC dI cy hlt x F D P p1 p2 p3 p4 v ev) (g_V gw329 gw330 gw331 gw7 gw332) hdV_X8_move rfl ⟨⟨Nat.le_of_ble_eq_true rfl, Nat.le_of_ble_eq_true rfl⟩, Nat.le_of_ble_eq_true rfl, Nat.le_of_ble_eq_true rfl⟩ hP hD hS hA ⟨rfl, rfl⟩ rfl (perm_nil _) (List.Perm.refl _) hl.1 rfl (Nat.le_of_ble_eq_true rfl) rfl rfl dL_move_6 (fun H locs ret ho hP hD hS => ?_) (fun H locs k q ce ho hP hD hS h1 h2 h3 => ?_)
  · rcases hres : v.1 with k | u
    · rw [hres] at ho; cases ho
    rw [hres] at ho ez
    obtain rfl := Sum.inr.inj ho
    obtain rfl := Option.some.inj ez
    refine W.eq (g2 := F0 mm 9 ls [.int u]) rfl ?_
    exact hE H locs _ _ 9 ls hP hD hS (Nat.le_of_ble_eq_true rfl) (Nat.le_of_ble_eq_true rfl) dL_move_9
  · rcases hres : v.1 with k2 | u
    · rw [hres] at ho ez
      obtain rfl := Sum.inl.inj ho
      replace ez : (if k2 = 1 then some (-1) else if k2 = 3 then some (-2) else none) = some z := ez
      by_cases a0 : k2 = 1
      · rw [if_pos a0] at ez
        obtain rfl := Option.some.inj ez
        subst a0
        refine vx_catch (own := RL) (name := exn 1) (E := exn 1) hown [] ⟨0, 9, 10, 16⟩ [⟨0, 9, 14, 18⟩] htab (fun z hz => by cases hz) rfl (by decide) (htg (Cond.classLink RL 16 (exn 1)) gw327) (va_Nw.use (XWs_on _ XW1) (hX0.2.2.2 _ XW1)) h1 h2 h3 ?_
        refine lv_astore (lv' := [(5, .ref q), (0, .ref (x 0)), (1, .int p1), (2, .int p2), (3, .int p3), (4, .int p4)]) hx hb dL_move_10 hl (by decide) rfl (fun ls hl => ?_)
        refine lv_iconst (v := (-1)) hx hb dL_move_12 (by decide) ?_
        exact hE H locs _ _ 13 ls hP hD hS (Nat.le_of_ble_eq_true rfl) (Nat.le_of_ble_eq_true rfl) dL_move_13
      rw [if_neg a0] at ez
      by_cases a1 : k2 = 3
      · rw [if_pos a1] at ez
        obtain rfl := Option.some.inj ez
        subst a1
        refine vx_catch (own := RL) (name := exn 3) (E := exn 3) hown [⟨0, 9, 10, 16⟩] ⟨0, 9, 14, 18⟩ [] htab (fun z hz => by obtain rfl := List.mem_singleton.mp hz; exact Or.inr ⟨by decide, exn 1, htg (Cond.classLink RL 16 (exn 1)) gw327, hNC 3 1 (by decide) (by decide) (by decide)⟩) rfl (by decide) (htg (Cond.classLink RL 18 (exn 3)) gw328) (va_Nw.use (XWs_on _ XW3) (hX0.2.2.2 _ XW3)) h1 h2 h3 ?_
        refine lv_astore (lv' := [(5, .ref q), (0, .ref (x 0)), (1, .int p1), (2, .int p2), (3, .int p3), (4, .int p4)]) hx hb dL_move_14 hl (by decide) rfl (fun ls hl => ?_)
        refine lv_bipush (v := (-2)) hx hb dL_move_16 (by decide) ?_
        exact hE H locs _ _ 18 ls hP hD hS (Nat.le_of_ble_eq_true rfl) (Nat.le_of_ble_eq_true rfl) dL_move_18
      rw [if_neg a1] at ez
      cases ez
    · rw [hres] at ho; cases ho
theorem cw_insert : Cond.codeWith yL_insert cL_insert 6 (some .int) [(0, 9, 10, 16), (0, 9, 14, 18)] ∈ GW := gw_of 387 (by decide +kernel) rfl
def G_L_insert (F : Fig) (D : Fig) (P : PastS) (p1 : Int32) (p2 : Int32) (p3 : Int32) (p4 : Int32) : Option (Int32 × Fig × Fig × PastS) := (G_X8_insert F D P p1 p2 p3 p4).bind fun v => (lkv 1 v.1).bind fun z => some (z, v.2)
abbrev rmL_insert : Room := { frames := 8, cells := 2, slots := 12, locals := 162 }
theorem hdS_L_insert : yL_insert.cls ≠ "java/lang/invoke/MethodHandle" ∧ yL_insert.cls ≠ "java/lang/invoke/VarHandle" ∧ (parseMethodDescriptor yL_insert.desc).map (fun d => d.parameters.length) = some 5 := by decide +kernel
set_option maxHeartbeats 4000000 in
set_option maxRecDepth 100000 in
theorem c_L_insert (l : Launch) (dC : Nat → ClassId) (dI : Nat → Nat → Nat) (cy : Nat → ClassId) (hlt : l.stackTraces = false) (x : Nat → Nat) (F : Fig) (D : Fig) (P : PastS) (p1 : Int32) (p2 : Int32) (p3 : Int32) (p4 : Int32) (res : Int32 × Fig × Fig × PastS) (h : G_L_insert F D P p1 p2 p3 p4 = some res) : LW l (dC, dI) (TY cy) yL_insert cL_insert 6 [(0, 9, 10, 16), (0, 9, 14, 18)] rmL_insert [.ref (x 0), .int p1, .int p2, .int p3, .int p4] (wSPo x ++ wFig (fun j => x (1 + j)) cy F ++ wFig (fun j => x (6 + j)) cy D ++ wP2 (fun j => x (11 + j)) cy P ++ wPF (fun j => x (11 + j)) cy (p_figs P)) (wSPo x ++ wFig (fun j => x (1 + j)) cy res.2.1 ++ wFig (fun j => x (6 + j)) cy res.2.2.1 ++ wP2 (fun j => x (11 + j)) cy res.2.2.2 ++ wPF (fun j => x (11 + j)) cy (p_figs res.2.2.2)) (some (.int res.1)) := by
  unfold G_L_insert at h
  obtain ⟨v, ev, h⟩ := bnd h
  obtain ⟨z, ez, h⟩ := bnd h
  obtain rfl := Option.some.inj h
  refine LW.mk ⟨by decide, rfl⟩ (Nat.le_of_ble_eq_true rfl) ?_
  intro p e s mm args below meth cd A Q hx hb hml hown htab htg hN hK hX0 hNC hA hP hD hS hE ls hl
  have hl : lv_has ls 6 [(0, .ref (x 0)), (1, .int p1), (2, .int p2), (3, .int p3), (4, .int p4)] := hl
  obtain ⟨H, hH⟩ : ∃ H, H = s.heap := ⟨_, rfl⟩
  obtain ⟨locs, hlocs⟩ : ∃ locs : List Loc, locs = [] := ⟨_, rfl⟩
  rw [← hlocs] at hS ⊢
  have hS : va_S A s.heap H locs := by rw [hH]; exact hS
  rw [← hH] at hP ⊢
  refine lv_aload_n hx hb dL_insert_0 rfl (lv_at hl 0 rfl) ?_
  refine lv_iload_n hx hb dL_insert_1 rfl (lv_at hl 1 rfl) ?_
  refine lv_iload_n hx hb dL_insert_2 rfl (lv_at hl 2 rfl) ?_
  refine lv_iload_n hx hb dL_insert_3 rfl (lv_at hl 3 rfl) ?_
  refine lv_iload hx hb dL_insert_4 (lv_at hl 4 rfl) ?_
  refine cXVp (av := [.int p1, .int p2, .int p3, .int p4]) (rest := []) (k1 := 2) (k2 := 12) (wn := wSPo x ++ wFig (fun j => x (1 + j)) cy v.2.1 ++ wFig (fun j => x (6 + j)) cy v.2.2.1 ++ wP2 (fun j => x (11 + j)) cy v.2.2.2 ++ wPF (fun j => x (11 + j)) cy (p_figs v.2.2.2)) (ci := 3) (q0 := 0) hx hb hml hown htg hN hK hX0 (c_X8_insert l dC dI cy hlt x F D P p1 p2 p3 p4 v ev) (g_V gw388 gw389 gw390 gw7 gw391) hdV_X8_insert rfl ⟨⟨Nat.le_of_ble_eq_true rfl, Nat.le_of_ble_eq_true rfl⟩, Nat.le_of_ble_eq_true rfl, Nat.le_of_ble_eq_true rfl⟩ hP hD hS hA ⟨rfl, rfl⟩ rfl (perm_nil _) (List.Perm.refl _) hl.1 rfl (Nat.le_of_ble_eq_true rfl) rfl rfl dL_insert_6 (fun H locs ret ho hP hD hS => ?_) (fun H locs k q ce ho hP hD hS h1 h2 h3 => ?_)
  · rcases hres : v.1 with k | u
    · rw [hres] at ho; cases ho
    rw [hres] at ho ez
    obtain rfl := Sum.inr.inj ho
    obtain rfl := Option.some.inj ez
    refine W.eq (g2 := F0 mm 9 ls [.int u]) rfl ?_
    exact hE H locs _ _ 9 ls hP hD hS (Nat.le_of_ble_eq_true rfl) (Nat.le_of_ble_eq_true rfl) dL_insert_9
  · rcases hres : v.1 with k2 | u
    · rw [hres] at ho ez
      obtain rfl := Sum.inl.inj ho
      replace ez : (if k2 = 1 then some (-1) else if k2 = 3 then some (-2) else none) = some z := ez
      by_cases a0 : k2 = 1
      · rw [if_pos a0] at ez
        obtain rfl := Option.some.inj ez
        subst a0
        refine vx_catch (own := RL) (name := exn 1) (E := exn 1) hown [] ⟨0, 9, 10, 16⟩ [⟨0, 9, 14, 18⟩] htab (fun z hz => by cases hz) rfl (by decide) (htg (Cond.classLink RL 16 (exn 1)) gw327) (va_Nw.use (XWs_on _ XW1) (hX0.2.2.2 _ XW1)) h1 h2 h3 ?_
        refine lv_astore (lv' := [(5, .ref q), (0, .ref (x 0)), (1, .int p1), (2, .int p2), (3, .int p3), (4, .int p4)]) hx hb dL_insert_10 hl (by decide) rfl (fun ls hl => ?_)
        refine lv_iconst (v := (-1)) hx hb dL_insert_12 (by decide) ?_
        exact hE H locs _ _ 13 ls hP hD hS (Nat.le_of_ble_eq_true rfl) (Nat.le_of_ble_eq_true rfl) dL_insert_13
      rw [if_neg a0] at ez
      by_cases a1 : k2 = 3
      · rw [if_pos a1] at ez
        obtain rfl := Option.some.inj ez
        subst a1
        refine vx_catch (own := RL) (name := exn 3) (E := exn 3) hown [⟨0, 9, 10, 16⟩] ⟨0, 9, 14, 18⟩ [] htab (fun z hz => by obtain rfl := List.mem_singleton.mp hz; exact Or.inr ⟨by decide, exn 1, htg (Cond.classLink RL 16 (exn 1)) gw327, hNC 3 1 (by decide) (by decide) (by decide)⟩) rfl (by decide) (htg (Cond.classLink RL 18 (exn 3)) gw328) (va_Nw.use (XWs_on _ XW3) (hX0.2.2.2 _ XW3)) h1 h2 h3 ?_
        refine lv_astore (lv' := [(5, .ref q), (0, .ref (x 0)), (1, .int p1), (2, .int p2), (3, .int p3), (4, .int p4)]) hx hb dL_insert_14 hl (by decide) rfl (fun ls hl => ?_)
        refine lv_bipush (v := (-2)) hx hb dL_insert_16 (by decide) ?_
        exact hE H locs _ _ 18 ls hP hD hS (Nat.le_of_ble_eq_true rfl) (Nat.le_of_ble_eq_true rfl) dL_insert_18
      rw [if_neg a1] at ez
      cases ez
    · rw [hres] at ho; cases ho
theorem cw_remove : Cond.codeWith yL_remove cL_remove 4 (some .int) [(0, 6, 7, 16), (0, 6, 10, 18)] ∈ GW := gw_of 400 (by decide +kernel) rfl
def G_L_remove (F : Fig) (D : Fig) (P : PastS) (p1 : Int32) (p2 : Int32) : Option (Int32 × Fig × Fig × PastS) := (G_X8_remove F D P p1 p2).bind fun v => (lkv 1 v.1).bind fun z => some (z, v.2)
abbrev rmL_remove : Room := { frames := 8, cells := 2, slots := 12, locals := 158 }
theorem hdS_L_remove : yL_remove.cls ≠ "java/lang/invoke/MethodHandle" ∧ yL_remove.cls ≠ "java/lang/invoke/VarHandle" ∧ (parseMethodDescriptor yL_remove.desc).map (fun d => d.parameters.length) = some 3 := by decide +kernel
set_option maxHeartbeats 4000000 in
set_option maxRecDepth 100000 in
theorem c_L_remove (l : Launch) (dC : Nat → ClassId) (dI : Nat → Nat → Nat) (cy : Nat → ClassId) (hlt : l.stackTraces = false) (x : Nat → Nat) (F : Fig) (D : Fig) (P : PastS) (p1 : Int32) (p2 : Int32) (res : Int32 × Fig × Fig × PastS) (h : G_L_remove F D P p1 p2 = some res) : LW l (dC, dI) (TY cy) yL_remove cL_remove 4 [(0, 6, 7, 16), (0, 6, 10, 18)] rmL_remove [.ref (x 0), .int p1, .int p2] (wSPo x ++ wFig (fun j => x (1 + j)) cy F ++ wFig (fun j => x (6 + j)) cy D ++ wP2 (fun j => x (11 + j)) cy P ++ wPF (fun j => x (11 + j)) cy (p_figs P)) (wSPo x ++ wFig (fun j => x (1 + j)) cy res.2.1 ++ wFig (fun j => x (6 + j)) cy res.2.2.1 ++ wP2 (fun j => x (11 + j)) cy res.2.2.2 ++ wPF (fun j => x (11 + j)) cy (p_figs res.2.2.2)) (some (.int res.1)) := by
  unfold G_L_remove at h
  obtain ⟨v, ev, h⟩ := bnd h
  obtain ⟨z, ez, h⟩ := bnd h
  obtain rfl := Option.some.inj h
  refine LW.mk ⟨by decide, rfl⟩ (Nat.le_of_ble_eq_true rfl) ?_
  intro p e s mm args below meth cd A Q hx hb hml hown htab htg hN hK hX0 hNC hA hP hD hS hE ls hl
  have hl : lv_has ls 4 [(0, .ref (x 0)), (1, .int p1), (2, .int p2)] := hl
  obtain ⟨H, hH⟩ : ∃ H, H = s.heap := ⟨_, rfl⟩
  obtain ⟨locs, hlocs⟩ : ∃ locs : List Loc, locs = [] := ⟨_, rfl⟩
  rw [← hlocs] at hS ⊢
  have hS : va_S A s.heap H locs := by rw [hH]; exact hS
  rw [← hH] at hP ⊢
  refine lv_aload_n hx hb dL_remove_0 rfl (lv_at hl 0 rfl) ?_
  refine lv_iload_n hx hb dL_remove_1 rfl (lv_at hl 1 rfl) ?_
  refine lv_iload_n hx hb dL_remove_2 rfl (lv_at hl 2 rfl) ?_
  refine cXVp (av := [.int p1, .int p2]) (rest := []) (k1 := 2) (k2 := 12) (wn := wSPo x ++ wFig (fun j => x (1 + j)) cy v.2.1 ++ wFig (fun j => x (6 + j)) cy v.2.2.1 ++ wP2 (fun j => x (11 + j)) cy v.2.2.2 ++ wPF (fun j => x (11 + j)) cy (p_figs v.2.2.2)) (ci := 3) (q0 := 0) hx hb hml hown htg hN hK hX0 (c_X8_remove l dC dI cy hlt x F D P p1 p2 v ev) (g_V gw401 gw402 gw403 gw7 gw404) hdV_X8_remove rfl ⟨⟨Nat.le_of_ble_eq_true rfl, Nat.le_of_ble_eq_true rfl⟩, Nat.le_of_ble_eq_true rfl, Nat.le_of_ble_eq_true rfl⟩ hP hD hS hA ⟨rfl, rfl⟩ rfl (perm_nil _) (List.Perm.refl _) hl.1 rfl (Nat.le_of_ble_eq_true rfl) rfl rfl dL_remove_3 (fun H locs ret ho hP hD hS => ?_) (fun H locs k q ce ho hP hD hS h1 h2 h3 => ?_)
  · rcases hres : v.1 with k | u
    · rw [hres] at ho; cases ho
    rw [hres] at ho ez
    obtain rfl := Sum.inr.inj ho
    obtain rfl := Option.some.inj ez
    refine W.eq (g2 := F0 mm 6 ls [.int u]) rfl ?_
    exact hE H locs _ _ 6 ls hP hD hS (Nat.le_of_ble_eq_true rfl) (Nat.le_of_ble_eq_true rfl) dL_remove_6
  · rcases hres : v.1 with k2 | u
    · rw [hres] at ho ez
      obtain rfl := Sum.inl.inj ho
      replace ez : (if k2 = 1 then some (-1) else if k2 = 3 then some (-2) else none) = some z := ez
      by_cases a0 : k2 = 1
      · rw [if_pos a0] at ez
        obtain rfl := Option.some.inj ez
        subst a0
        refine vx_catch (own := RL) (name := exn 1) (E := exn 1) hown [] ⟨0, 6, 7, 16⟩ [⟨0, 6, 10, 18⟩] htab (fun z hz => by cases hz) rfl (by decide) (htg (Cond.classLink RL 16 (exn 1)) gw327) (va_Nw.use (XWs_on _ XW1) (hX0.2.2.2 _ XW1)) h1 h2 h3 ?_
        refine lv_astore_n (lv' := [(3, .ref q), (0, .ref (x 0)), (1, .int p1), (2, .int p2)]) hx hb dL_remove_7 rfl hl (by decide) rfl (fun ls hl => ?_)
        refine lv_iconst (v := (-1)) hx hb dL_remove_8 (by decide) ?_
        exact hE H locs _ _ 9 ls hP hD hS (Nat.le_of_ble_eq_true rfl) (Nat.le_of_ble_eq_true rfl) dL_remove_9
      rw [if_neg a0] at ez
      by_cases a1 : k2 = 3
      · rw [if_pos a1] at ez
        obtain rfl := Option.some.inj ez
        subst a1
        refine vx_catch (own := RL) (name := exn 3) (E := exn 3) hown [⟨0, 6, 7, 16⟩] ⟨0, 6, 10, 18⟩ [] htab (fun z hz => by obtain rfl := List.mem_singleton.mp hz; exact Or.inr ⟨by decide, exn 1, htg (Cond.classLink RL 16 (exn 1)) gw327, hNC 3 1 (by decide) (by decide) (by decide)⟩) rfl (by decide) (htg (Cond.classLink RL 18 (exn 3)) gw328) (va_Nw.use (XWs_on _ XW3) (hX0.2.2.2 _ XW3)) h1 h2 h3 ?_
        refine lv_astore_n (lv' := [(3, .ref q), (0, .ref (x 0)), (1, .int p1), (2, .int p2)]) hx hb dL_remove_10 rfl hl (by decide) rfl (fun ls hl => ?_)
        refine lv_bipush (v := (-2)) hx hb dL_remove_11 (by decide) ?_
        exact hE H locs _ _ 13 ls hP hD hS (Nat.le_of_ble_eq_true rfl) (Nat.le_of_ble_eq_true rfl) dL_remove_13
      rw [if_neg a1] at ez
      cases ez
    · rw [hres] at ho; cases ho
theorem cw_addHole : Cond.codeWith yL_addHole cL_addHole 4 (some .int) [(0, 6, 7, 30), (0, 6, 10, 18)] ∈ GW := gw_of 420 (by decide +kernel) rfl
def G_L_addHole (F : Fig) (D : Fig) (P : PastS) (p1 : Int32) (p2 : Int32) : Option (Int32 × Fig × Fig × PastS) := (G_X8_addHole F D P p1 p2).bind fun v => (lkv 2 v.1).bind fun z => some (z, v.2)
abbrev rmL_addHole : Room := { frames := 7, cells := 1, slots := 6, locals := 158 }
theorem hdS_L_addHole : yL_addHole.cls ≠ "java/lang/invoke/MethodHandle" ∧ yL_addHole.cls ≠ "java/lang/invoke/VarHandle" ∧ (parseMethodDescriptor yL_addHole.desc).map (fun d => d.parameters.length) = some 3 := by decide +kernel
set_option maxHeartbeats 4000000 in
set_option maxRecDepth 100000 in
theorem c_L_addHole (l : Launch) (dC : Nat → ClassId) (dI : Nat → Nat → Nat) (cy : Nat → ClassId) (hlt : l.stackTraces = false) (x : Nat → Nat) (F : Fig) (D : Fig) (P : PastS) (p1 : Int32) (p2 : Int32) (res : Int32 × Fig × Fig × PastS) (h : G_L_addHole F D P p1 p2 = some res) : LW l (dC, dI) (TY cy) yL_addHole cL_addHole 4 [(0, 6, 7, 30), (0, 6, 10, 18)] rmL_addHole [.ref (x 0), .int p1, .int p2] (wSPo x ++ wFig (fun j => x (1 + j)) cy F ++ wFig (fun j => x (6 + j)) cy D ++ wP2 (fun j => x (11 + j)) cy P ++ wPF (fun j => x (11 + j)) cy (p_figs P)) (wSPo x ++ wFig (fun j => x (1 + j)) cy res.2.1 ++ wFig (fun j => x (6 + j)) cy res.2.2.1 ++ wP2 (fun j => x (11 + j)) cy res.2.2.2 ++ wPF (fun j => x (11 + j)) cy (p_figs res.2.2.2)) (some (.int res.1)) := by
  unfold G_L_addHole at h
  obtain ⟨v, ev, h⟩ := bnd h
  obtain ⟨z, ez, h⟩ := bnd h
  obtain rfl := Option.some.inj h
  refine LW.mk ⟨by decide, rfl⟩ (Nat.le_of_ble_eq_true rfl) ?_
  intro p e s mm args below meth cd A Q hx hb hml hown htab htg hN hK hX0 hNC hA hP hD hS hE ls hl
  have hl : lv_has ls 4 [(0, .ref (x 0)), (1, .int p1), (2, .int p2)] := hl
  obtain ⟨H, hH⟩ : ∃ H, H = s.heap := ⟨_, rfl⟩
  obtain ⟨locs, hlocs⟩ : ∃ locs : List Loc, locs = [] := ⟨_, rfl⟩
  rw [← hlocs] at hS ⊢
  have hS : va_S A s.heap H locs := by rw [hH]; exact hS
  rw [← hH] at hP ⊢
  refine lv_aload_n hx hb dL_addHole_0 rfl (lv_at hl 0 rfl) ?_
  refine lv_iload_n hx hb dL_addHole_1 rfl (lv_at hl 1 rfl) ?_
  refine lv_iload_n hx hb dL_addHole_2 rfl (lv_at hl 2 rfl) ?_
  refine cXVp (av := [.int p1, .int p2]) (rest := []) (k1 := 1) (k2 := 6) (wn := wSPo x ++ wFig (fun j => x (1 + j)) cy v.2.1 ++ wFig (fun j => x (6 + j)) cy v.2.2.1 ++ wP2 (fun j => x (11 + j)) cy v.2.2.2 ++ wPF (fun j => x (11 + j)) cy (p_figs v.2.2.2)) (ci := 3) (q0 := 0) hx hb hml hown htg hN hK hX0 (c_X8_addHole l dC dI cy hlt x F D P p1 p2 v ev) (g_V gw422 gw423 gw424 gw7 gw425) hdV_X8_addHole rfl ⟨⟨Nat.le_of_ble_eq_true rfl, Nat.le_of_ble_eq_true rfl⟩, Nat.le_of_ble_eq_true rfl, Nat.le_of_ble_eq_true rfl⟩ hP hD hS hA ⟨rfl, rfl⟩ rfl (perm_nil _) (List.Perm.refl _) hl.1 rfl (Nat.le_of_ble_eq_true rfl) rfl rfl dL_addHole_3 (fun H locs ret ho hP hD hS => ?_) (fun H locs k q ce ho hP hD hS h1 h2 h3 => ?_)
  · rcases hres : v.1 with k | u
    · rw [hres] at ho; cases ho
    rw [hres] at ho ez
    obtain rfl := Sum.inr.inj ho
    obtain rfl := Option.some.inj ez
    refine W.eq (g2 := F0 mm 6 ls [.int u]) rfl ?_
    exact hE H locs _ _ 6 ls hP hD hS (Nat.le_of_ble_eq_true rfl) (Nat.le_of_ble_eq_true rfl) dL_addHole_6
  · rcases hres : v.1 with k2 | u
    · rw [hres] at ho ez
      obtain rfl := Sum.inl.inj ho
      replace ez : (if k2 = 2 then some (-1) else if k2 = 3 then some (-2) else none) = some z := ez
      by_cases a0 : k2 = 2
      · rw [if_pos a0] at ez
        obtain rfl := Option.some.inj ez
        subst a0
        refine vx_catch (own := RL) (name := exn 2) (E := exn 2) hown [] ⟨0, 6, 7, 30⟩ [⟨0, 6, 10, 18⟩] htab (fun z hz => by cases hz) rfl (by decide) (htg (Cond.classLink RL 30 (exn 2)) gw421) (va_Nw.use (XWs_on _ XW2) (hX0.2.2.2 _ XW2)) h1 h2 h3 ?_
        refine lv_astore_n (lv' := [(3, .ref q), (0, .ref (x 0)), (1, .int p1), (2, .int p2)]) hx hb dL_addHole_7 rfl hl (by decide) rfl (fun ls hl => ?_)
        refine lv_iconst (v := (-1)) hx hb dL_addHole_8 (by decide) ?_
        exact hE H locs _ _ 9 ls hP hD hS (Nat.le_of_ble_eq_true rfl) (Nat.le_of_ble_eq_true rfl) dL_addHole_9
      rw [if_neg a0] at ez
      by_cases a1 : k2 = 3
      · rw [if_pos a1] at ez
        obtain rfl := Option.some.inj ez
        subst a1
        refine vx_catch (own := RL) (name := exn 3) (E := exn 3) hown [⟨0, 6, 7, 30⟩] ⟨0, 6, 10, 18⟩ [] htab (fun z hz => by obtain rfl := List.mem_singleton.mp hz; exact Or.inr ⟨by decide, exn 2, htg (Cond.classLink RL 30 (exn 2)) gw421, hNC 3 2 (by decide) (by decide) (by decide)⟩) rfl (by decide) (htg (Cond.classLink RL 18 (exn 3)) gw328) (va_Nw.use (XWs_on _ XW3) (hX0.2.2.2 _ XW3)) h1 h2 h3 ?_
        refine lv_astore_n (lv' := [(3, .ref q), (0, .ref (x 0)), (1, .int p1), (2, .int p2)]) hx hb dL_addHole_10 rfl hl (by decide) rfl (fun ls hl => ?_)
        refine lv_bipush (v := (-2)) hx hb dL_addHole_11 (by decide) ?_
        exact hE H locs _ _ 13 ls hP hD hS (Nat.le_of_ble_eq_true rfl) (Nat.le_of_ble_eq_true rfl) dL_addHole_13
      rw [if_neg a1] at ez
      cases ez
    · rw [hres] at ho; cases ho
