def G_X9_isInTheWay_j110  (m0 : Mod) (l7_110 : Int32) (l6_110 : Int32) (l1_110 : Int32) (l2_110 : Int32) (l3_110 : Int32) (l4_110 : Int32) (l5_110 : Int32) : Option (Int32) :=
  (rd 40 (m_ax m0) l1_110).bind fun v115 =>
  ((if v115 = l2_110 then
      (rd 40 (m_ay m0) l1_110).bind fun v125 =>
      if v125 = l3_110 then
        (rd 40 (m_bx m0) l1_110).bind fun v157 =>
        some v157
      else
        (rd 40 (m_ax m0) l1_110).bind fun v135 =>
        if v135 = l4_110 then
          (rd 40 (m_ay m0) l1_110).bind fun v146 =>
          if v146 = l5_110 then
            (rd 40 (m_bx m0) l1_110).bind fun v157 =>
            some v157
          else
            (rd 40 (m_ax m0) l1_110).bind fun v166 =>
            some v166
        else
          (rd 40 (m_ax m0) l1_110).bind fun v166 =>
          some v166
    else
      (rd 40 (m_ax m0) l1_110).bind fun v135 =>
      if v135 = l4_110 then
        (rd 40 (m_ay m0) l1_110).bind fun v146 =>
        if v146 = l5_110 then
          (rd 40 (m_bx m0) l1_110).bind fun v157 =>
          some v157
        else
          (rd 40 (m_ax m0) l1_110).bind fun v166 =>
          some v166
      else
        (rd 40 (m_ax m0) l1_110).bind fun v166 =>
        some v166) : Option (Int32)).bind fun b117 =>
  (rd 40 (m_ax m0) l1_110).bind fun v174 =>
  ((if v174 = l2_110 then
      (rd 40 (m_ay m0) l1_110).bind fun v184 =>
      if v184 = l3_110 then
        (rd 40 (m_by m0) l1_110).bind fun v216 =>
        some v216
      else
        (rd 40 (m_ax m0) l1_110).bind fun v194 =>
        if v194 = l4_110 then
          (rd 40 (m_ay m0) l1_110).bind fun v205 =>
          if v205 = l5_110 then
            (rd 40 (m_by m0) l1_110).bind fun v216 =>
            some v216
          else
            (rd 40 (m_ay m0) l1_110).bind fun v225 =>
            some v225
        else
          (rd 40 (m_ay m0) l1_110).bind fun v225 =>
          some v225
    else
      (rd 40 (m_ax m0) l1_110).bind fun v194 =>
      if v194 = l4_110 then
        (rd 40 (m_ay m0) l1_110).bind fun v205 =>
        if v205 = l5_110 then
          (rd 40 (m_by m0) l1_110).bind fun v216 =>
          some v216
        else
          (rd 40 (m_ay m0) l1_110).bind fun v225 =>
          some v225
      else
        (rd 40 (m_ay m0) l1_110).bind fun v225 =>
        some v225) : Option (Int32)).bind fun b176 =>
  if l6_110 = 0 then
    if l7_110 = 0 then
      (G_X9_isMet m0 l1_110 l2_110 l3_110 l4_110 l5_110).bind fun v276 =>
      (bck v276).bind fun v279 =>
      some v279
    else
      (G_X9_isSameWay l4_110 l5_110 l2_110 l3_110 b117 b176).bind fun v262 =>
      (bck v262).bind fun v279 =>
      some v279
  else
    (G_X9_isSameWay l2_110 l3_110 l4_110 l5_110 b117 b176).bind fun v243 =>
    (bck v243).bind fun v246 =>
    some v246
def G_X9_isInTheWay (m0 : Mod) (p1 : Int32) (p2 : Int32) (p3 : Int32) (p4 : Int32) (p5 : Int32) : Option (Int32) :=
  (rd 40 (m_ax m0) p1).bind fun v5 =>
  ((if v5 = p2 then
      (rd 40 (m_ay m0) p1).bind fun v15 =>
      if v15 = p3 then
        some 1
      else
        (rd 40 (m_bx m0) p1).bind fun v25 =>
        if v25 = p2 then
          (rd 40 (m_by m0) p1).bind fun v35 =>
          if v35 = p3 then
            some 1
          else
            some 0
        else
          some 0
    else
      (rd 40 (m_bx m0) p1).bind fun v25 =>
      if v25 = p2 then
        (rd 40 (m_by m0) p1).bind fun v35 =>
        if v35 = p3 then
          some 1
        else
          some 0
      else
        some 0) : Option (Int32)).bind fun b7 =>
  (rd 40 (m_ax m0) p1).bind fun v52 =>
  ((if v52 = p4 then
      (rd 40 (m_ay m0) p1).bind fun v63 =>
      if v63 = p5 then
        some 1
      else
        (rd 40 (m_bx m0) p1).bind fun v74 =>
        if v74 = p4 then
          (rd 40 (m_by m0) p1).bind fun v85 =>
          if v85 = p5 then
            some 1
          else
            some 0
        else
          some 0
    else
      (rd 40 (m_bx m0) p1).bind fun v74 =>
      if v74 = p4 then
        (rd 40 (m_by m0) p1).bind fun v85 =>
        if v85 = p5 then
          some 1
        else
          some 0
      else
        some 0) : Option (Int32)).bind fun b55 =>
  if b7 = 0 then
    G_X9_isInTheWay_j110 m0 b55 b7 p1 p2 p3 p4 p5
  else
    if b55 = 0 then
      G_X9_isInTheWay_j110 m0 b55 b7 p1 p2 p3 p4 p5
    else
      some 1
abbrev rm_X9_isInTheWay : Room := { frames := 3, cells := 0, slots := 0, locals := 79 }
theorem hdS_X9_isInTheWay : yX9_isInTheWay.cls ≠ "java/lang/invoke/MethodHandle" ∧ yX9_isInTheWay.cls ≠ "java/lang/invoke/VarHandle" ∧ (parseMethodDescriptor yX9_isInTheWay.desc).map (fun d => d.parameters.length) = some 5 := by decide +kernel
theorem hdV_X9_isInTheWay : yX9_isInTheWay.cls = RX9 ∧ yX9_isInTheWay.cls ≠ "java/lang/invoke/MethodHandle" ∧ yX9_isInTheWay.cls ≠ "java/lang/invoke/VarHandle" ∧ (parseMethodDescriptor yX9_isInTheWay.desc).map (fun d => d.parameters.length) = some 5 := ⟨rfl, hdS_X9_isInTheWay⟩
set_option maxHeartbeats 4000000 in
set_option maxRecDepth 100000 in
theorem c_X9_isInTheWay (l : Launch) (dC : Nat → ClassId) (dI : Nat → Nat → Nat) (cy : Nat → ClassId) (a0 : Nat → Nat) (m0 : Mod) (p1 : Int32) (p2 : Int32) (p3 : Int32) (p4 : Int32) (p5 : Int32) (res : Int32) (h : G_X9_isInTheWay m0 p1 p2 p3 p4 p5 = some res) : CT l (dC, dI) (TY cy) yX9_isInTheWay cX9_isInTheWay 10 (some .boolean) rm_X9_isInTheWay [.ref (a0 0), .int p1, .int p2, .int p3, .int p4, .int p5] (wMod a0 cy m0) (wMod a0 cy m0) (some (.int res)) := by
  refine CT.mk_z (own := RX9) ⟨by decide, rfl⟩ (Nat.le_of_ble_eq_true rfl) ?_
  intro p e s mm args below meth cd A Q hx hb hml hown htg hN hK hA hP hD hS hE ls hl
  have hl : lv_has ls 10 [(0, .ref (a0 0)), (1, .int p1), (2, .int p2), (3, .int p3), (4, .int p4), (5, .int p5)] := hl
  replace h : _ = some res := h
  unfold G_X9_isInTheWay at h
  obtain ⟨H, hH⟩ : ∃ H, H = s.heap := ⟨_, rfl⟩
  obtain ⟨locs, hlocs⟩ : ∃ locs : List Loc, locs = [] := ⟨_, rfl⟩
  rw [← hlocs] at hS ⊢
  have hS : va_S A s.heap H locs := by rw [hH]; exact hS
  rw [← hH] at hP ⊢
  refine lv_aload_n hx hb dX9_isInTheWay_0 rfl (lv_at hl 0 rfl) ?_
  refine va_get (D := (dC, dI)) (ci := 4) (v := .ref (a0 10)) (C := RX9) (T := TX9) (N := 18) hx hb htg inX9 hown hK hP 0 rfl rfl 13 (by decide) (htg _ gw863) (fun _ h9 => h9) rfl dX9_isInTheWay_1 ?_
  refine lv_iload_n hx hb dX9_isInTheWay_4 rfl (lv_at hl 1 rfl) ?_
  obtain ⟨v5, e5, h⟩ := bnd h
  refine x_iald (v := v5) hx hb hK hP 10 0 rfl rfl e5 dX9_isInTheWay_5 ?_
  refine lv_iload_n hx hb dX9_isInTheWay_6 rfl (lv_at hl 2 rfl) ?_
  obtain ⟨b7, e7, h⟩ := bnd h
  have hr45 : ∀ (H : Heap) (locs : List Loc) (ls : Array Slot), va_P (dC, dI) vwCl (wMod a0 cy m0) H → va_D A (wMod a0 cy m0) → va_S A s.heap H locs → lv_has ls 10 [(0, .ref (a0 0)), (1, .int p1), (2, .int p2), (3, .int p3), (4, .int p4), (5, .int p5)] → W p l e rm_X9_isInTheWay s mm args below meth cd H locs 0 0 Q (F0 mm 45 ls [.int b7]) := by
    intro H locs ls hP hD hS hl
    refine lv_istore (lv' := [(6, .int b7), (0, .ref (a0 0)), (1, .int p1), (2, .int p2), (3, .int p3), (4, .int p4), (5, .int p5)]) hx hb dX9_isInTheWay_45 hl (by decide) rfl (fun ls hl => ?_)
    refine lv_aload_n hx hb dX9_isInTheWay_47 rfl (lv_at hl 1 rfl) ?_
    refine va_get (D := (dC, dI)) (ci := 4) (v := .ref (a0 10)) (C := RX9) (T := TX9) (N := 18) hx hb htg inX9 hown hK hP 0 rfl rfl 13 (by decide) (htg _ gw863) (fun _ h9 => h9) rfl dX9_isInTheWay_48 ?_
    refine lv_iload_n hx hb dX9_isInTheWay_51 rfl (lv_at hl 2 rfl) ?_
    obtain ⟨v52, e52, h⟩ := bnd h
    refine x_iald (v := v52) hx hb hK hP 10 0 rfl rfl e52 dX9_isInTheWay_52 ?_
    refine lv_iload hx hb dX9_isInTheWay_53 (lv_at hl 5 rfl) ?_
    obtain ⟨b55, e55, h⟩ := bnd h
    have hr96 : ∀ (H : Heap) (locs : List Loc) (ls : Array Slot), va_P (dC, dI) vwCl (wMod a0 cy m0) H → va_D A (wMod a0 cy m0) → va_S A s.heap H locs → lv_has ls 10 [(6, .int b7), (0, .ref (a0 0)), (1, .int p1), (2, .int p2), (3, .int p3), (4, .int p4), (5, .int p5)] → W p l e rm_X9_isInTheWay s mm args below meth cd H locs 0 0 Q (F0 mm 96 ls [.int b55]) := by
      intro H locs ls hP hD hS hl
      refine lv_istore (lv' := [(7, .int b55), (6, .int b7), (0, .ref (a0 0)), (1, .int p1), (2, .int p2), (3, .int p3), (4, .int p4), (5, .int p5)]) hx hb dX9_isInTheWay_96 hl (by decide) rfl (fun ls hl => ?_)
      refine lv_iload hx hb dX9_isInTheWay_98 (lv_at hl 1 rfl) ?_
      have hj110 : ∀ (l7_110 : Int32) (l6_110 : Int32) (l1_110 : Int32) (l2_110 : Int32) (l3_110 : Int32) (l4_110 : Int32) (l5_110 : Int32) (H : Heap) (locs : List Loc) (ls : Array Slot), G_X9_isInTheWay_j110 m0 l7_110 l6_110 l1_110 l2_110 l3_110 l4_110 l5_110 = some res → va_P (dC, dI) vwCl (wMod a0 cy m0) H → va_D A (wMod a0 cy m0) → va_S A s.heap H locs → lv_has ls 10 [(7, .int l7_110), (6, .int l6_110), (0, .ref (a0 0)), (1, .int l1_110), (2, .int l2_110), (3, .int l3_110), (4, .int l4_110), (5, .int l5_110)] → W p l e rm_X9_isInTheWay s mm args below meth cd H locs 0 0 Q (F0 mm 110 ls []) := by
        intro l7_110 l6_110 l1_110 l2_110 l3_110 l4_110 l5_110 H locs ls h hP hD hS hl
        unfold G_X9_isInTheWay_j110 at h
        refine lv_aload_n hx hb dX9_isInTheWay_110 rfl (lv_at hl 2 rfl) ?_
        refine va_get (D := (dC, dI)) (ci := 4) (v := .ref (a0 10)) (C := RX9) (T := TX9) (N := 18) hx hb htg inX9 hown hK hP 0 rfl rfl 13 (by decide) (htg _ gw863) (fun _ h9 => h9) rfl dX9_isInTheWay_111 ?_
        refine lv_iload_n hx hb dX9_isInTheWay_114 rfl (lv_at hl 3 rfl) ?_
        obtain ⟨v115, e115, h⟩ := bnd h
        refine x_iald (v := v115) hx hb hK hP 10 0 rfl rfl e115 dX9_isInTheWay_115 ?_
        refine lv_iload_n hx hb dX9_isInTheWay_116 rfl (lv_at hl 4 rfl) ?_
        obtain ⟨b117, e117, h⟩ := bnd h
        have hr167 : ∀ (H : Heap) (locs : List Loc) (ls : Array Slot), va_P (dC, dI) vwCl (wMod a0 cy m0) H → va_D A (wMod a0 cy m0) → va_S A s.heap H locs → lv_has ls 10 [(7, .int l7_110), (6, .int l6_110), (0, .ref (a0 0)), (1, .int l1_110), (2, .int l2_110), (3, .int l3_110), (4, .int l4_110), (5, .int l5_110)] → W p l e rm_X9_isInTheWay s mm args below meth cd H locs 0 0 Q (F0 mm 167 ls [.int b117]) := by
          intro H locs ls hP hD hS hl
          refine lv_istore (lv' := [(8, .int b117), (7, .int l7_110), (6, .int l6_110), (0, .ref (a0 0)), (1, .int l1_110), (2, .int l2_110), (3, .int l3_110), (4, .int l4_110), (5, .int l5_110)]) hx hb dX9_isInTheWay_167 hl (by decide) rfl (fun ls hl => ?_)
          refine lv_aload_n hx hb dX9_isInTheWay_169 rfl (lv_at hl 3 rfl) ?_
          refine va_get (D := (dC, dI)) (ci := 4) (v := .ref (a0 10)) (C := RX9) (T := TX9) (N := 18) hx hb htg inX9 hown hK hP 0 rfl rfl 13 (by decide) (htg _ gw863) (fun _ h9 => h9) rfl dX9_isInTheWay_170 ?_
          refine lv_iload_n hx hb dX9_isInTheWay_173 rfl (lv_at hl 4 rfl) ?_
          obtain ⟨v174, e174, h⟩ := bnd h
          refine x_iald (v := v174) hx hb hK hP 10 0 rfl rfl e174 dX9_isInTheWay_174 ?_
          refine lv_iload_n hx hb dX9_isInTheWay_175 rfl (lv_at hl 5 rfl) ?_
          obtain ⟨b176, e176, h⟩ := bnd h
          have hr226 : ∀ (H : Heap) (locs : List Loc) (ls : Array Slot), va_P (dC, dI) vwCl (wMod a0 cy m0) H → va_D A (wMod a0 cy m0) → va_S A s.heap H locs → lv_has ls 10 [(8, .int b117), (7, .int l7_110), (6, .int l6_110), (0, .ref (a0 0)), (1, .int l1_110), (2, .int l2_110), (3, .int l3_110), (4, .int l4_110), (5, .int l5_110)] → W p l e rm_X9_isInTheWay s mm args below meth cd H locs 0 0 Q (F0 mm 226 ls [.int b176]) := by
            intro H locs ls hP hD hS hl
            refine lv_istore (lv' := [(9, .int b176), (8, .int b117), (7, .int l7_110), (6, .int l6_110), (0, .ref (a0 0)), (1, .int l1_110), (2, .int l2_110), (3, .int l3_110), (4, .int l4_110), (5, .int l5_110)]) hx hb dX9_isInTheWay_226 hl (by decide) rfl (fun ls hl => ?_)
            refine lv_iload hx hb dX9_isInTheWay_228 (lv_at hl 3 rfl) ?_
            refine lv_if_eq (tgt := 247) hx hb dX9_isInTheWay_230 (by decide) (fun c230 => ?_) (fun c230 => ?_)
            · replace h := if_t h c230
              refine lv_iload hx hb dX9_isInTheWay_247 (lv_at hl 2 rfl) ?_
              refine lv_if_eq (tgt := 268) hx hb dX9_isInTheWay_249 (by decide) (fun c249 => ?_) (fun c249 => ?_)
              · replace h := if_t h c249
                refine lv_aload_n hx hb dX9_isInTheWay_268 rfl (lv_at hl 4 rfl) ?_
                refine lv_iload_n hx hb dX9_isInTheWay_269 rfl (lv_at hl 5 rfl) ?_
                refine lv_iload_n hx hb dX9_isInTheWay_270 rfl (lv_at hl 6 rfl) ?_
                refine lv_iload_n hx hb dX9_isInTheWay_271 rfl (lv_at hl 7 rfl) ?_
                refine lv_iload hx hb dX9_isInTheWay_272 (lv_at hl 8 rfl) ?_
                refine lv_iload hx hb dX9_isInTheWay_274 (lv_at hl 9 rfl) ?_
                obtain ⟨v276, e276, h⟩ := bnd h
                refine cV (av := [.int l1_110, .int l2_110, .int l3_110, .int l4_110, .int l5_110]) (rest := []) (st1 := [.int v276]) (k1 := 0) (k2 := 0) (ci := 4) (q0 := 0) hx hb hml hown htg hN hK (c_X9_isMet l dC dI cy a0 m0 l1_110 l2_110 l3_110 l4_110 l5_110 v276 e276) (g_V gw977 gw979 gw19 gw63 gw980) hdV_X9_isMet rfl ⟨⟨Nat.le_of_ble_eq_true rfl, Nat.le_of_ble_eq_true rfl⟩, Nat.le_of_ble_eq_true rfl, Nat.le_of_ble_eq_true rfl⟩ hP hD hS hA ⟨rfl, rfl⟩ rfl [0, 1, 2, 3, 4, 5, 6, 7, 8, 9, 10, 11, 12, 13, 14] [] rfl rfl rfl (by decide) (by decide) hl.1 rfl (Nat.le_of_ble_eq_true rfl) rfl rfl rfl dX9_isInTheWay_276 (fun H locs hP hD hS => ?_)
                have hP : va_P (dC, dI) vwCl (wMod a0 cy m0) H := hP
                have hD : va_D A (wMod a0 cy m0) := hD
                obtain ⟨v279, e279, h⟩ := bnd h
                obtain ⟨rfl, hz279⟩ := bck_in e279
                obtain rfl := Option.some.inj h
                exact hE H locs 279 ls _ hP hD hS rfl hz279 dX9_isInTheWay_279
              replace h := if_f h c249
              refine lv_iload hx hb dX9_isInTheWay_252 (lv_at hl 8 rfl) ?_
              refine lv_iload hx hb dX9_isInTheWay_254 (lv_at hl 9 rfl) ?_
              refine lv_iload_n hx hb dX9_isInTheWay_256 rfl (lv_at hl 6 rfl) ?_
              refine lv_iload_n hx hb dX9_isInTheWay_257 rfl (lv_at hl 7 rfl) ?_
              refine lv_iload hx hb dX9_isInTheWay_258 (lv_at hl 1 rfl) ?_
              refine lv_iload hx hb dX9_isInTheWay_260 (lv_at hl 0 rfl) ?_
              obtain ⟨v262, e262, h⟩ := bnd h
              refine cS (av := [.int l4_110, .int l5_110, .int l2_110, .int l3_110, .int b117, .int b176]) (rest := []) (st1 := [.int v262]) (k1 := 0) (k2 := 0) hx hb hml hown htg hN hK (c_X9_isSameWay l dC dI cy   l4_110 l5_110 l2_110 l3_110 b117 b176 v262 e262) (g_S gw974 gw975 gw63 gw976) hdS_X9_isSameWay rfl ⟨⟨Nat.le_of_ble_eq_true rfl, Nat.le_of_ble_eq_true rfl⟩, Nat.le_of_ble_eq_true rfl, Nat.le_of_ble_eq_true rfl⟩ hP hD hS hA [] [0, 1, 2, 3, 4, 5, 6, 7, 8, 9, 10, 11, 12, 13, 14] rfl rfl rfl (by decide) (by decide) hl.1 rfl (Nat.le_of_ble_eq_true rfl) rfl rfl rfl dX9_isInTheWay_262 (fun H locs hP hD hS => ?_)
              obtain ⟨hP, hD⟩ := x_perm (ws' := wMod a0 cy m0) hP hD [0, 1, 2, 3, 4, 5, 6, 7, 8, 9, 10, 11, 12, 13, 14] (by decide) rfl rfl
              refine lv_goto (tgt := 279) hx hb dX9_isInTheWay_265 (by decide) ?_
              obtain ⟨v279, e279, h⟩ := bnd h
              obtain ⟨rfl, hz279⟩ := bck_in e279
              obtain rfl := Option.some.inj h
              exact hE H locs 279 ls _ hP hD hS rfl hz279 dX9_isInTheWay_279
            replace h := if_f h c230
            refine lv_iload_n hx hb dX9_isInTheWay_233 rfl (lv_at hl 6 rfl) ?_
            refine lv_iload_n hx hb dX9_isInTheWay_234 rfl (lv_at hl 7 rfl) ?_
            refine lv_iload hx hb dX9_isInTheWay_235 (lv_at hl 8 rfl) ?_
            refine lv_iload hx hb dX9_isInTheWay_237 (lv_at hl 9 rfl) ?_
            refine lv_iload hx hb dX9_isInTheWay_239 (lv_at hl 1 rfl) ?_
            refine lv_iload hx hb dX9_isInTheWay_241 (lv_at hl 0 rfl) ?_
            obtain ⟨v243, e243, h⟩ := bnd h
            refine cS (av := [.int l2_110, .int l3_110, .int l4_110, .int l5_110, .int b117, .int b176]) (rest := []) (st1 := [.int v243]) (k1 := 0) (k2 := 0) hx hb hml hown htg hN hK (c_X9_isSameWay l dC dI cy   l2_110 l3_110 l4_110 l5_110 b117 b176 v243 e243) (g_S gw974 gw975 gw63 gw976) hdS_X9_isSameWay rfl ⟨⟨Nat.le_of_ble_eq_true rfl, Nat.le_of_ble_eq_true rfl⟩, Nat.le_of_ble_eq_true rfl, Nat.le_of_ble_eq_true rfl⟩ hP hD hS hA [] [0, 1, 2, 3, 4, 5, 6, 7, 8, 9, 10, 11, 12, 13, 14] rfl rfl rfl (by decide) (by decide) hl.1 rfl (Nat.le_of_ble_eq_true rfl) rfl rfl rfl dX9_isInTheWay_243 (fun H locs hP hD hS => ?_)
            obtain ⟨hP, hD⟩ := x_perm (ws' := wMod a0 cy m0) hP hD [0, 1, 2, 3, 4, 5, 6, 7, 8, 9, 10, 11, 12, 13, 14] (by decide) rfl rfl
            obtain ⟨v246, e246, h⟩ := bnd h
            obtain ⟨rfl, hz246⟩ := bck_in e246
            obtain rfl := Option.some.inj h
            exact hE H locs 246 ls _ hP hD hS rfl hz246 dX9_isInTheWay_246
          have h := e176
          clear e176
          refine lv_icmp_ne (tgt := 189) hx hb dX9_isInTheWay_176 (by decide) (fun c176 => ?_) (fun c176 => ?_)
          · replace h := if_f h c176
            refine lv_aload_n hx hb dX9_isInTheWay_189 rfl (lv_at hl 3 rfl) ?_
            refine va_get (D := (dC, dI)) (ci := 4) (v := .ref (a0 10)) (C := RX9) (T := TX9) (N := 18) hx hb htg inX9 hown hK hP 0 rfl rfl 13 (by decide) (htg _ gw863) (fun _ h9 => h9) rfl dX9_isInTheWay_190 ?_
            refine lv_iload_n hx hb dX9_isInTheWay_193 rfl (lv_at hl 4 rfl) ?_
            obtain ⟨v194, e194, h⟩ := bnd h
            refine x_iald (v := v194) hx hb hK hP 10 0 rfl rfl e194 dX9_isInTheWay_194 ?_
            refine lv_iload hx hb dX9_isInTheWay_195 (lv_at hl 7 rfl) ?_
            refine lv_icmp_ne (tgt := 220) hx hb dX9_isInTheWay_197 (by decide) (fun c197 => ?_) (fun c197 => ?_)
            · replace h := if_f h c197
              refine lv_aload_n hx hb dX9_isInTheWay_220 rfl (lv_at hl 3 rfl) ?_
              refine va_get (D := (dC, dI)) (ci := 4) (v := .ref (a0 11)) (C := RX9) (T := TX9) (N := 18) hx hb htg inX9 hown hK hP 0 rfl rfl 14 (by decide) (htg _ gw864) (fun _ h9 => h9) rfl dX9_isInTheWay_221 ?_
              refine lv_iload_n hx hb dX9_isInTheWay_224 rfl (lv_at hl 4 rfl) ?_
              obtain ⟨v225, e225, h⟩ := bnd h
              refine x_iald (v := v225) hx hb hK hP 11 0 rfl rfl e225 dX9_isInTheWay_225 ?_
              obtain rfl := Option.some.inj h
              exact hr226 H locs ls hP hD hS hl
            replace h := if_t h c197
            refine lv_aload_n hx hb dX9_isInTheWay_200 rfl (lv_at hl 3 rfl) ?_
            refine va_get (D := (dC, dI)) (ci := 4) (v := .ref (a0 11)) (C := RX9) (T := TX9) (N := 18) hx hb htg inX9 hown hK hP 0 rfl rfl 14 (by decide) (htg _ gw864) (fun _ h9 => h9) rfl dX9_isInTheWay_201 ?_
            refine lv_iload_n hx hb dX9_isInTheWay_204 rfl (lv_at hl 4 rfl) ?_
            obtain ⟨v205, e205, h⟩ := bnd h
            refine x_iald (v := v205) hx hb hK hP 11 0 rfl rfl e205 dX9_isInTheWay_205 ?_
            refine lv_iload hx hb dX9_isInTheWay_206 (lv_at hl 8 rfl) ?_
            refine lv_icmp_ne (tgt := 220) hx hb dX9_isInTheWay_208 (by decide) (fun c208 => ?_) (fun c208 => ?_)
            · replace h := if_f h c208
              refine lv_aload_n hx hb dX9_isInTheWay_220 rfl (lv_at hl 3 rfl) ?_
              refine va_get (D := (dC, dI)) (ci := 4) (v := .ref (a0 11)) (C := RX9) (T := TX9) (N := 18) hx hb htg inX9 hown hK hP 0 rfl rfl 14 (by decide) (htg _ gw864) (fun _ h9 => h9) rfl dX9_isInTheWay_221 ?_
              refine lv_iload_n hx hb dX9_isInTheWay_224 rfl (lv_at hl 4 rfl) ?_
              obtain ⟨v225, e225, h⟩ := bnd h
              refine x_iald (v := v225) hx hb hK hP 11 0 rfl rfl e225 dX9_isInTheWay_225 ?_
              obtain rfl := Option.some.inj h
              exact hr226 H locs ls hP hD hS hl
            replace h := if_t h c208
            refine lv_aload_n hx hb dX9_isInTheWay_211 rfl (lv_at hl 3 rfl) ?_
            refine va_get (D := (dC, dI)) (ci := 4) (v := .ref (a0 13)) (C := RX9) (T := TX9) (N := 18) hx hb htg inX9 hown hK hP 0 rfl rfl 16 (by decide) (htg _ gw866) (fun _ h9 => h9) rfl dX9_isInTheWay_212 ?_
            refine lv_iload_n hx hb dX9_isInTheWay_215 rfl (lv_at hl 4 rfl) ?_
            obtain ⟨v216, e216, h⟩ := bnd h
            refine x_iald (v := v216) hx hb hK hP 13 0 rfl rfl e216 dX9_isInTheWay_216 ?_
            refine lv_goto (tgt := 226) hx hb dX9_isInTheWay_217 (by decide) ?_
            obtain rfl := Option.some.inj h
            exact hr226 H locs ls hP hD hS hl
          replace h := if_t h c176
          refine lv_aload_n hx hb dX9_isInTheWay_179 rfl (lv_at hl 3 rfl) ?_
          refine va_get (D := (dC, dI)) (ci := 4) (v := .ref (a0 11)) (C := RX9) (T := TX9) (N := 18) hx hb htg inX9 hown hK hP 0 rfl rfl 14 (by decide) (htg _ gw864) (fun _ h9 => h9) rfl dX9_isInTheWay_180 ?_
          refine lv_iload_n hx hb dX9_isInTheWay_183 rfl (lv_at hl 4 rfl) ?_
          obtain ⟨v184, e184, h⟩ := bnd h
          refine x_iald (v := v184) hx hb hK hP 11 0 rfl rfl e184 dX9_isInTheWay_184 ?_
          refine lv_iload_n hx hb dX9_isInTheWay_185 rfl (lv_at hl 6 rfl) ?_
          refine lv_icmp_eq (tgt := 211) hx hb dX9_isInTheWay_186 (by decide) (fun c186 => ?_) (fun c186 => ?_)
          · replace h := if_t h c186
            refine lv_aload_n hx hb dX9_isInTheWay_211 rfl (lv_at hl 3 rfl) ?_
            refine va_get (D := (dC, dI)) (ci := 4) (v := .ref (a0 13)) (C := RX9) (T := TX9) (N := 18) hx hb htg inX9 hown hK hP 0 rfl rfl 16 (by decide) (htg _ gw866) (fun _ h9 => h9) rfl dX9_isInTheWay_212 ?_
            refine lv_iload_n hx hb dX9_isInTheWay_215 rfl (lv_at hl 4 rfl) ?_
            obtain ⟨v216, e216, h⟩ := bnd h
            refine x_iald (v := v216) hx hb hK hP 13 0 rfl rfl e216 dX9_isInTheWay_216 ?_
            refine lv_goto (tgt := 226) hx hb dX9_isInTheWay_217 (by decide) ?_
            obtain rfl := Option.some.inj h
            exact hr226 H locs ls hP hD hS hl
          replace h := if_f h c186
          refine lv_aload_n hx hb dX9_isInTheWay_189 rfl (lv_at hl 3 rfl) ?_
          refine va_get (D := (dC, dI)) (ci := 4) (v := .ref (a0 10)) (C := RX9) (T := TX9) (N := 18) hx hb htg inX9 hown hK hP 0 rfl rfl 13 (by decide) (htg _ gw863) (fun _ h9 => h9) rfl dX9_isInTheWay_190 ?_
          refine lv_iload_n hx hb dX9_isInTheWay_193 rfl (lv_at hl 4 rfl) ?_
          obtain ⟨v194, e194, h⟩ := bnd h
          refine x_iald (v := v194) hx hb hK hP 10 0 rfl rfl e194 dX9_isInTheWay_194 ?_
          refine lv_iload hx hb dX9_isInTheWay_195 (lv_at hl 7 rfl) ?_
          refine lv_icmp_ne (tgt := 220) hx hb dX9_isInTheWay_197 (by decide) (fun c197 => ?_) (fun c197 => ?_)
          · replace h := if_f h c197
            refine lv_aload_n hx hb dX9_isInTheWay_220 rfl (lv_at hl 3 rfl) ?_
            refine va_get (D := (dC, dI)) (ci := 4) (v := .ref (a0 11)) (C := RX9) (T := TX9) (N := 18) hx hb htg inX9 hown hK hP 0 rfl rfl 14 (by decide) (htg _ gw864) (fun _ h9 => h9) rfl dX9_isInTheWay_221 ?_
            refine lv_iload_n hx hb dX9_isInTheWay_224 rfl (lv_at hl 4 rfl) ?_
            obtain ⟨v225, e225, h⟩ := bnd h
            refine x_iald (v := v225) hx hb hK hP 11 0 rfl rfl e225 dX9_isInTheWay_225 ?_
            obtain rfl := Option.some.inj h
            exact hr226 H locs ls hP hD hS hl
          replace h := if_t h c197
          refine lv_aload_n hx hb dX9_isInTheWay_200 rfl (lv_at hl 3 rfl) ?_
          refine va_get (D := (dC, dI)) (ci := 4) (v := .ref (a0 11)) (C := RX9) (T := TX9) (N := 18) hx hb htg inX9 hown hK hP 0 rfl rfl 14 (by decide) (htg _ gw864) (fun _ h9 => h9) rfl dX9_isInTheWay_201 ?_
          refine lv_iload_n hx hb dX9_isInTheWay_204 rfl (lv_at hl 4 rfl) ?_
          obtain ⟨v205, e205, h⟩ := bnd h
          refine x_iald (v := v205) hx hb hK hP 11 0 rfl rfl e205 dX9_isInTheWay_205 ?_
          refine lv_iload hx hb dX9_isInTheWay_206 (lv_at hl 8 rfl) ?_
          refine lv_icmp_ne (tgt := 220) hx hb dX9_isInTheWay_208 (by decide) (fun c208 => ?_) (fun c208 => ?_)
          · replace h := if_f h c208
            refine lv_aload_n hx hb dX9_isInTheWay_220 rfl (lv_at hl 3 rfl) ?_
            refine va_get (D := (dC, dI)) (ci := 4) (v := .ref (a0 11)) (C := RX9) (T := TX9) (N := 18) hx hb htg inX9 hown hK hP 0 rfl rfl 14 (by decide) (htg _ gw864) (fun _ h9 => h9) rfl dX9_isInTheWay_221 ?_
            refine lv_iload_n hx hb dX9_isInTheWay_224 rfl (lv_at hl 4 rfl) ?_
            obtain ⟨v225, e225, h⟩ := bnd h
            refine x_iald (v := v225) hx hb hK hP 11 0 rfl rfl e225 dX9_isInTheWay_225 ?_
            obtain rfl := Option.some.inj h
            exact hr226 H locs ls hP hD hS hl
          replace h := if_t h c208
          refine lv_aload_n hx hb dX9_isInTheWay_211 rfl (lv_at hl 3 rfl) ?_
          refine va_get (D := (dC, dI)) (ci := 4) (v := .ref (a0 13)) (C := RX9) (T := TX9) (N := 18) hx hb htg inX9 hown hK hP 0 rfl rfl 16 (by decide) (htg _ gw866) (fun _ h9 => h9) rfl dX9_isInTheWay_212 ?_
          refine lv_iload_n hx hb dX9_isInTheWay_215 rfl (lv_at hl 4 rfl) ?_
          obtain ⟨v216, e216, h⟩ := bnd h
          refine x_iald (v := v216) hx hb hK hP 13 0 rfl rfl e216 dX9_isInTheWay_216 ?_
          refine lv_goto (tgt := 226) hx hb dX9_isInTheWay_217 (by decide) ?_
          obtain rfl := Option.some.inj h
          exact hr226 H locs ls hP hD hS hl
        have h := e117
        clear e117
        refine lv_icmp_ne (tgt := 130) hx hb dX9_isInTheWay_117 (by decide) (fun c117 => ?_) (fun c117 => ?_)
        · replace h := if_f h c117
          refine lv_aload_n hx hb dX9_isInTheWay_130 rfl (lv_at hl 2 rfl) ?_
          refine va_get (D := (dC, dI)) (ci := 4) (v := .ref (a0 10)) (C := RX9) (T := TX9) (N := 18) hx hb htg inX9 hown hK hP 0 rfl rfl 13 (by decide) (htg _ gw863) (fun _ h9 => h9) rfl dX9_isInTheWay_131 ?_
          refine lv_iload_n hx hb dX9_isInTheWay_134 rfl (lv_at hl 3 rfl) ?_
          obtain ⟨v135, e135, h⟩ := bnd h
          refine x_iald (v := v135) hx hb hK hP 10 0 rfl rfl e135 dX9_isInTheWay_135 ?_
          refine lv_iload hx hb dX9_isInTheWay_136 (lv_at hl 6 rfl) ?_
          refine lv_icmp_ne (tgt := 161) hx hb dX9_isInTheWay_138 (by decide) (fun c138 => ?_) (fun c138 => ?_)
          · replace h := if_f h c138
            refine lv_aload_n hx hb dX9_isInTheWay_161 rfl (lv_at hl 2 rfl) ?_
            refine va_get (D := (dC, dI)) (ci := 4) (v := .ref (a0 10)) (C := RX9) (T := TX9) (N := 18) hx hb htg inX9 hown hK hP 0 rfl rfl 13 (by decide) (htg _ gw863) (fun _ h9 => h9) rfl dX9_isInTheWay_162 ?_
            refine lv_iload_n hx hb dX9_isInTheWay_165 rfl (lv_at hl 3 rfl) ?_
            obtain ⟨v166, e166, h⟩ := bnd h
            refine x_iald (v := v166) hx hb hK hP 10 0 rfl rfl e166 dX9_isInTheWay_166 ?_
            obtain rfl := Option.some.inj h
            exact hr167 H locs ls hP hD hS hl
          replace h := if_t h c138
          refine lv_aload_n hx hb dX9_isInTheWay_141 rfl (lv_at hl 2 rfl) ?_
          refine va_get (D := (dC, dI)) (ci := 4) (v := .ref (a0 11)) (C := RX9) (T := TX9) (N := 18) hx hb htg inX9 hown hK hP 0 rfl rfl 14 (by decide) (htg _ gw864) (fun _ h9 => h9) rfl dX9_isInTheWay_142 ?_
          refine lv_iload_n hx hb dX9_isInTheWay_145 rfl (lv_at hl 3 rfl) ?_
          obtain ⟨v146, e146, h⟩ := bnd h
          refine x_iald (v := v146) hx hb hK hP 11 0 rfl rfl e146 dX9_isInTheWay_146 ?_
          refine lv_iload hx hb dX9_isInTheWay_147 (lv_at hl 7 rfl) ?_
          refine lv_icmp_ne (tgt := 161) hx hb dX9_isInTheWay_149 (by decide) (fun c149 => ?_) (fun c149 => ?_)
          · replace h := if_f h c149
            refine lv_aload_n hx hb dX9_isInTheWay_161 rfl (lv_at hl 2 rfl) ?_
            refine va_get (D := (dC, dI)) (ci := 4) (v := .ref (a0 10)) (C := RX9) (T := TX9) (N := 18) hx hb htg inX9 hown hK hP 0 rfl rfl 13 (by decide) (htg _ gw863) (fun _ h9 => h9) rfl dX9_isInTheWay_162 ?_
            refine lv_iload_n hx hb dX9_isInTheWay_165 rfl (lv_at hl 3 rfl) ?_
            obtain ⟨v166, e166, h⟩ := bnd h
            refine x_iald (v := v166) hx hb hK hP 10 0 rfl rfl e166 dX9_isInTheWay_166 ?_
            obtain rfl := Option.some.inj h
            exact hr167 H locs ls hP hD hS hl
          replace h := if_t h c149
          refine lv_aload_n hx hb dX9_isInTheWay_152 rfl (lv_at hl 2 rfl) ?_
          refine va_get (D := (dC, dI)) (ci := 4) (v := .ref (a0 12)) (C := RX9) (T := TX9) (N := 18) hx hb htg inX9 hown hK hP 0 rfl rfl 15 (by decide) (htg _ gw865) (fun _ h9 => h9) rfl dX9_isInTheWay_153 ?_
          refine lv_iload_n hx hb dX9_isInTheWay_156 rfl (lv_at hl 3 rfl) ?_
          obtain ⟨v157, e157, h⟩ := bnd h
          refine x_iald (v := v157) hx hb hK hP 12 0 rfl rfl e157 dX9_isInTheWay_157 ?_
          refine lv_goto (tgt := 167) hx hb dX9_isInTheWay_158 (by decide) ?_
          obtain rfl := Option.some.inj h
          exact hr167 H locs ls hP hD hS hl
        replace h := if_t h c117
        refine lv_aload_n hx hb dX9_isInTheWay_120 rfl (lv_at hl 2 rfl) ?_
        refine va_get (D := (dC, dI)) (ci := 4) (v := .ref (a0 11)) (C := RX9) (T := TX9) (N := 18) hx hb htg inX9 hown hK hP 0 rfl rfl 14 (by decide) (htg _ gw864) (fun _ h9 => h9) rfl dX9_isInTheWay_121 ?_
        refine lv_iload_n hx hb dX9_isInTheWay_124 rfl (lv_at hl 3 rfl) ?_
        obtain ⟨v125, e125, h⟩ := bnd h
        refine x_iald (v := v125) hx hb hK hP 11 0 rfl rfl e125 dX9_isInTheWay_125 ?_
        refine lv_iload_n hx hb dX9_isInTheWay_126 rfl (lv_at hl 5 rfl) ?_
        refine lv_icmp_eq (tgt := 152) hx hb dX9_isInTheWay_127 (by decide) (fun c127 => ?_) (fun c127 => ?_)
        · replace h := if_t h c127
          refine lv_aload_n hx hb dX9_isInTheWay_152 rfl (lv_at hl 2 rfl) ?_
          refine va_get (D := (dC, dI)) (ci := 4) (v := .ref (a0 12)) (C := RX9) (T := TX9) (N := 18) hx hb htg inX9 hown hK hP 0 rfl rfl 15 (by decide) (htg _ gw865) (fun _ h9 => h9) rfl dX9_isInTheWay_153 ?_
          refine lv_iload_n hx hb dX9_isInTheWay_156 rfl (lv_at hl 3 rfl) ?_
          obtain ⟨v157, e157, h⟩ := bnd h
          refine x_iald (v := v157) hx hb hK hP 12 0 rfl rfl e157 dX9_isInTheWay_157 ?_
          refine lv_goto (tgt := 167) hx hb dX9_isInTheWay_158 (by decide) ?_
          obtain rfl := Option.some.inj h
          exact hr167 H locs ls hP hD hS hl
        replace h := if_f h c127
        refine lv_aload_n hx hb dX9_isInTheWay_130 rfl (lv_at hl 2 rfl) ?_
        refine va_get (D := (dC, dI)) (ci := 4) (v := .ref (a0 10)) (C := RX9) (T := TX9) (N := 18) hx hb htg inX9 hown hK hP 0 rfl rfl 13 (by decide) (htg _ gw863) (fun _ h9 => h9) rfl dX9_isInTheWay_131 ?_
        refine lv_iload_n hx hb dX9_isInTheWay_134 rfl (lv_at hl 3 rfl) ?_
        obtain ⟨v135, e135, h⟩ := bnd h
        refine x_iald (v := v135) hx hb hK hP 10 0 rfl rfl e135 dX9_isInTheWay_135 ?_
        refine lv_iload hx hb dX9_isInTheWay_136 (lv_at hl 6 rfl) ?_
        refine lv_icmp_ne (tgt := 161) hx hb dX9_isInTheWay_138 (by decide) (fun c138 => ?_) (fun c138 => ?_)
        · replace h := if_f h c138
          refine lv_aload_n hx hb dX9_isInTheWay_161 rfl (lv_at hl 2 rfl) ?_
          refine va_get (D := (dC, dI)) (ci := 4) (v := .ref (a0 10)) (C := RX9) (T := TX9) (N := 18) hx hb htg inX9 hown hK hP 0 rfl rfl 13 (by decide) (htg _ gw863) (fun _ h9 => h9) rfl dX9_isInTheWay_162 ?_
          refine lv_iload_n hx hb dX9_isInTheWay_165 rfl (lv_at hl 3 rfl) ?_
          obtain ⟨v166, e166, h⟩ := bnd h
          refine x_iald (v := v166) hx hb hK hP 10 0 rfl rfl e166 dX9_isInTheWay_166 ?_
          obtain rfl := Option.some.inj h
          exact hr167 H locs ls hP hD hS hl
        replace h := if_t h c138
        refine lv_aload_n hx hb dX9_isInTheWay_141 rfl (lv_at hl 2 rfl) ?_
        refine va_get (D := (dC, dI)) (ci := 4) (v := .ref (a0 11)) (C := RX9) (T := TX9) (N := 18) hx hb htg inX9 hown hK hP 0 rfl rfl 14 (by decide) (htg _ gw864) (fun _ h9 => h9) rfl dX9_isInTheWay_142 ?_
        refine lv_iload_n hx hb dX9_isInTheWay_145 rfl (lv_at hl 3 rfl) ?_
        obtain ⟨v146, e146, h⟩ := bnd h
        refine x_iald (v := v146) hx hb hK hP 11 0 rfl rfl e146 dX9_isInTheWay_146 ?_
        refine lv_iload hx hb dX9_isInTheWay_147 (lv_at hl 7 rfl) ?_
        refine lv_icmp_ne (tgt := 161) hx hb dX9_isInTheWay_149 (by decide) (fun c149 => ?_) (fun c149 => ?_)
        · replace h := if_f h c149
          refine lv_aload_n hx hb dX9_isInTheWay_161 rfl (lv_at hl 2 rfl) ?_
          refine va_get (D := (dC, dI)) (ci := 4) (v := .ref (a0 10)) (C := RX9) (T := TX9) (N := 18) hx hb htg inX9 hown hK hP 0 rfl rfl 13 (by decide) (htg _ gw863) (fun _ h9 => h9) rfl dX9_isInTheWay_162 ?_
          refine lv_iload_n hx hb dX9_isInTheWay_165 rfl (lv_at hl 3 rfl) ?_
          obtain ⟨v166, e166, h⟩ := bnd h
          refine x_iald (v := v166) hx hb hK hP 10 0 rfl rfl e166 dX9_isInTheWay_166 ?_
          obtain rfl := Option.some.inj h
          exact hr167 H locs ls hP hD hS hl
        replace h := if_t h c149
        refine lv_aload_n hx hb dX9_isInTheWay_152 rfl (lv_at hl 2 rfl) ?_
        refine va_get (D := (dC, dI)) (ci := 4) (v := .ref (a0 12)) (C := RX9) (T := TX9) (N := 18) hx hb htg inX9 hown hK hP 0 rfl rfl 15 (by decide) (htg _ gw865) (fun _ h9 => h9) rfl dX9_isInTheWay_153 ?_
        refine lv_iload_n hx hb dX9_isInTheWay_156 rfl (lv_at hl 3 rfl) ?_
        obtain ⟨v157, e157, h⟩ := bnd h
        refine x_iald (v := v157) hx hb hK hP 12 0 rfl rfl e157 dX9_isInTheWay_157 ?_
        refine lv_goto (tgt := 167) hx hb dX9_isInTheWay_158 (by decide) ?_
        obtain rfl := Option.some.inj h
        exact hr167 H locs ls hP hD hS hl
      refine lv_if_eq (tgt := 110) hx hb dX9_isInTheWay_100 (by decide) (fun c100 => ?_) (fun c100 => ?_)
      · replace h := if_t h c100
        exact hj110 b55 b7 p1 p2 p3 p4 p5 H locs ls h hP hD hS (lv_sub hl [0, 1, 2, 3, 4, 5, 6, 7] rfl)
      replace h := if_f h c100
      refine lv_iload hx hb dX9_isInTheWay_103 (lv_at hl 0 rfl) ?_
      refine lv_if_eq (tgt := 110) hx hb dX9_isInTheWay_105 (by decide) (fun c105 => ?_) (fun c105 => ?_)
      · replace h := if_t h c105
        exact hj110 b55 b7 p1 p2 p3 p4 p5 H locs ls h hP hD hS (lv_sub hl [0, 1, 2, 3, 4, 5, 6, 7] rfl)
      replace h := if_f h c105
      refine lv_iconst (v := 1) hx hb dX9_isInTheWay_108 (by decide) ?_
      obtain rfl := Option.some.inj h
      exact hE H locs 109 ls _ hP hD hS rfl (Or.inr rfl) dX9_isInTheWay_109
    have h := e55
    clear e55
    refine lv_icmp_ne (tgt := 69) hx hb dX9_isInTheWay_55 (by decide) (fun c55 => ?_) (fun c55 => ?_)
    · replace h := if_f h c55
      refine lv_aload_n hx hb dX9_isInTheWay_69 rfl (lv_at hl 1 rfl) ?_
      refine va_get (D := (dC, dI)) (ci := 4) (v := .ref (a0 12)) (C := RX9) (T := TX9) (N := 18) hx hb htg inX9 hown hK hP 0 rfl rfl 15 (by decide) (htg _ gw865) (fun _ h9 => h9) rfl dX9_isInTheWay_70 ?_
      refine lv_iload_n hx hb dX9_isInTheWay_73 rfl (lv_at hl 2 rfl) ?_
      obtain ⟨v74, e74, h⟩ := bnd h
      refine x_iald (v := v74) hx hb hK hP 12 0 rfl rfl e74 dX9_isInTheWay_74 ?_
      refine lv_iload hx hb dX9_isInTheWay_75 (lv_at hl 5 rfl) ?_
      refine lv_icmp_ne (tgt := 95) hx hb dX9_isInTheWay_77 (by decide) (fun c77 => ?_) (fun c77 => ?_)
      · replace h := if_f h c77
        refine lv_iconst (v := 0) hx hb dX9_isInTheWay_95 (by decide) ?_
        obtain rfl := Option.some.inj h
        exact hr96 H locs ls hP hD hS hl
      replace h := if_t h c77
      refine lv_aload_n hx hb dX9_isInTheWay_80 rfl (lv_at hl 1 rfl) ?_
      refine va_get (D := (dC, dI)) (ci := 4) (v := .ref (a0 13)) (C := RX9) (T := TX9) (N := 18) hx hb htg inX9 hown hK hP 0 rfl rfl 16 (by decide) (htg _ gw866) (fun _ h9 => h9) rfl dX9_isInTheWay_81 ?_
      refine lv_iload_n hx hb dX9_isInTheWay_84 rfl (lv_at hl 2 rfl) ?_
      obtain ⟨v85, e85, h⟩ := bnd h
      refine x_iald (v := v85) hx hb hK hP 13 0 rfl rfl e85 dX9_isInTheWay_85 ?_
      refine lv_iload hx hb dX9_isInTheWay_86 (lv_at hl 6 rfl) ?_
      refine lv_icmp_ne (tgt := 95) hx hb dX9_isInTheWay_88 (by decide) (fun c88 => ?_) (fun c88 => ?_)
      · replace h := if_f h c88
        refine lv_iconst (v := 0) hx hb dX9_isInTheWay_95 (by decide) ?_
        obtain rfl := Option.some.inj h
        exact hr96 H locs ls hP hD hS hl
      replace h := if_t h c88
      refine lv_iconst (v := 1) hx hb dX9_isInTheWay_91 (by decide) ?_
      refine lv_goto (tgt := 96) hx hb dX9_isInTheWay_92 (by decide) ?_
      obtain rfl := Option.some.inj h
      exact hr96 H locs ls hP hD hS hl
    replace h := if_t h c55
    refine lv_aload_n hx hb dX9_isInTheWay_58 rfl (lv_at hl 1 rfl) ?_
    refine va_get (D := (dC, dI)) (ci := 4) (v := .ref (a0 11)) (C := RX9) (T := TX9) (N := 18) hx hb htg inX9 hown hK hP 0 rfl rfl 14 (by decide) (htg _ gw864) (fun _ h9 => h9) rfl dX9_isInTheWay_59 ?_
    refine lv_iload_n hx hb dX9_isInTheWay_62 rfl (lv_at hl 2 rfl) ?_
    obtain ⟨v63, e63, h⟩ := bnd h
    refine x_iald (v := v63) hx hb hK hP 11 0 rfl rfl e63 dX9_isInTheWay_63 ?_
    refine lv_iload hx hb dX9_isInTheWay_64 (lv_at hl 6 rfl) ?_
    refine lv_icmp_eq (tgt := 91) hx hb dX9_isInTheWay_66 (by decide) (fun c66 => ?_) (fun c66 => ?_)
    · replace h := if_t h c66
      refine lv_iconst (v := 1) hx hb dX9_isInTheWay_91 (by decide) ?_
      refine lv_goto (tgt := 96) hx hb dX9_isInTheWay_92 (by decide) ?_
      obtain rfl := Option.some.inj h
      exact hr96 H locs ls hP hD hS hl
    replace h := if_f h c66
    refine lv_aload_n hx hb dX9_isInTheWay_69 rfl (lv_at hl 1 rfl) ?_
    refine va_get (D := (dC, dI)) (ci := 4) (v := .ref (a0 12)) (C := RX9) (T := TX9) (N := 18) hx hb htg inX9 hown hK hP 0 rfl rfl 15 (by decide) (htg _ gw865) (fun _ h9 => h9) rfl dX9_isInTheWay_70 ?_
    refine lv_iload_n hx hb dX9_isInTheWay_73 rfl (lv_at hl 2 rfl) ?_
    obtain ⟨v74, e74, h⟩ := bnd h
    refine x_iald (v := v74) hx hb hK hP 12 0 rfl rfl e74 dX9_isInTheWay_74 ?_
    refine lv_iload hx hb dX9_isInTheWay_75 (lv_at hl 5 rfl) ?_
    refine lv_icmp_ne (tgt := 95) hx hb dX9_isInTheWay_77 (by decide) (fun c77 => ?_) (fun c77 => ?_)
    · replace h := if_f h c77
      refine lv_iconst (v := 0) hx hb dX9_isInTheWay_95 (by decide) ?_
      obtain rfl := Option.some.inj h
      exact hr96 H locs ls hP hD hS hl
    replace h := if_t h c77
    refine lv_aload_n hx hb dX9_isInTheWay_80 rfl (lv_at hl 1 rfl) ?_
    refine va_get (D := (dC, dI)) (ci := 4) (v := .ref (a0 13)) (C := RX9) (T := TX9) (N := 18) hx hb htg inX9 hown hK hP 0 rfl rfl 16 (by decide) (htg _ gw866) (fun _ h9 => h9) rfl dX9_isInTheWay_81 ?_
    refine lv_iload_n hx hb dX9_isInTheWay_84 rfl (lv_at hl 2 rfl) ?_
    obtain ⟨v85, e85, h⟩ := bnd h
    refine x_iald (v := v85) hx hb hK hP 13 0 rfl rfl e85 dX9_isInTheWay_85 ?_
    refine lv_iload hx hb dX9_isInTheWay_86 (lv_at hl 6 rfl) ?_
    refine lv_icmp_ne (tgt := 95) hx hb dX9_isInTheWay_88 (by decide) (fun c88 => ?_) (fun c88 => ?_)
    · replace h := if_f h c88
      refine lv_iconst (v := 0) hx hb dX9_isInTheWay_95 (by decide) ?_
      obtain rfl := Option.some.inj h
      exact hr96 H locs ls hP hD hS hl
    replace h := if_t h c88
    refine lv_iconst (v := 1) hx hb dX9_isInTheWay_91 (by decide) ?_
    refine lv_goto (tgt := 96) hx hb dX9_isInTheWay_92 (by decide) ?_
    obtain rfl := Option.some.inj h
    exact hr96 H locs ls hP hD hS hl
  have h := e7
  clear e7
  refine lv_icmp_ne (tgt := 20) hx hb dX9_isInTheWay_7 (by decide) (fun c7 => ?_) (fun c7 => ?_)
  · replace h := if_f h c7
    refine lv_aload_n hx hb dX9_isInTheWay_20 rfl (lv_at hl 0 rfl) ?_
    refine va_get (D := (dC, dI)) (ci := 4) (v := .ref (a0 12)) (C := RX9) (T := TX9) (N := 18) hx hb htg inX9 hown hK hP 0 rfl rfl 15 (by decide) (htg _ gw865) (fun _ h9 => h9) rfl dX9_isInTheWay_21 ?_
    refine lv_iload_n hx hb dX9_isInTheWay_24 rfl (lv_at hl 1 rfl) ?_
    obtain ⟨v25, e25, h⟩ := bnd h
    refine x_iald (v := v25) hx hb hK hP 12 0 rfl rfl e25 dX9_isInTheWay_25 ?_
    refine lv_iload_n hx hb dX9_isInTheWay_26 rfl (lv_at hl 2 rfl) ?_
    refine lv_icmp_ne (tgt := 44) hx hb dX9_isInTheWay_27 (by decide) (fun c27 => ?_) (fun c27 => ?_)
    · replace h := if_f h c27
      refine lv_iconst (v := 0) hx hb dX9_isInTheWay_44 (by decide) ?_
      obtain rfl := Option.some.inj h
      exact hr45 H locs ls hP hD hS hl
    replace h := if_t h c27
    refine lv_aload_n hx hb dX9_isInTheWay_30 rfl (lv_at hl 0 rfl) ?_
    refine va_get (D := (dC, dI)) (ci := 4) (v := .ref (a0 13)) (C := RX9) (T := TX9) (N := 18) hx hb htg inX9 hown hK hP 0 rfl rfl 16 (by decide) (htg _ gw866) (fun _ h9 => h9) rfl dX9_isInTheWay_31 ?_
    refine lv_iload_n hx hb dX9_isInTheWay_34 rfl (lv_at hl 1 rfl) ?_
    obtain ⟨v35, e35, h⟩ := bnd h
    refine x_iald (v := v35) hx hb hK hP 13 0 rfl rfl e35 dX9_isInTheWay_35 ?_
    refine lv_iload_n hx hb dX9_isInTheWay_36 rfl (lv_at hl 3 rfl) ?_
    refine lv_icmp_ne (tgt := 44) hx hb dX9_isInTheWay_37 (by decide) (fun c37 => ?_) (fun c37 => ?_)
    · replace h := if_f h c37
      refine lv_iconst (v := 0) hx hb dX9_isInTheWay_44 (by decide) ?_
      obtain rfl := Option.some.inj h
      exact hr45 H locs ls hP hD hS hl
    replace h := if_t h c37
    refine lv_iconst (v := 1) hx hb dX9_isInTheWay_40 (by decide) ?_
    refine lv_goto (tgt := 45) hx hb dX9_isInTheWay_41 (by decide) ?_
    obtain rfl := Option.some.inj h
    exact hr45 H locs ls hP hD hS hl
  replace h := if_t h c7
  refine lv_aload_n hx hb dX9_isInTheWay_10 rfl (lv_at hl 0 rfl) ?_
  refine va_get (D := (dC, dI)) (ci := 4) (v := .ref (a0 11)) (C := RX9) (T := TX9) (N := 18) hx hb htg inX9 hown hK hP 0 rfl rfl 14 (by decide) (htg _ gw864) (fun _ h9 => h9) rfl dX9_isInTheWay_11 ?_
  refine lv_iload_n hx hb dX9_isInTheWay_14 rfl (lv_at hl 1 rfl) ?_
  obtain ⟨v15, e15, h⟩ := bnd h
  refine x_iald (v := v15) hx hb hK hP 11 0 rfl rfl e15 dX9_isInTheWay_15 ?_
  refine lv_iload_n hx hb dX9_isInTheWay_16 rfl (lv_at hl 3 rfl) ?_
  refine lv_icmp_eq (tgt := 40) hx hb dX9_isInTheWay_17 (by decide) (fun c17 => ?_) (fun c17 => ?_)
  · replace h := if_t h c17
    refine lv_iconst (v := 1) hx hb dX9_isInTheWay_40 (by decide) ?_
    refine lv_goto (tgt := 45) hx hb dX9_isInTheWay_41 (by decide) ?_
    obtain rfl := Option.some.inj h
    exact hr45 H locs ls hP hD hS hl
  replace h := if_f h c17
  refine lv_aload_n hx hb dX9_isInTheWay_20 rfl (lv_at hl 0 rfl) ?_
  refine va_get (D := (dC, dI)) (ci := 4) (v := .ref (a0 12)) (C := RX9) (T := TX9) (N := 18) hx hb htg inX9 hown hK hP 0 rfl rfl 15 (by decide) (htg _ gw865) (fun _ h9 => h9) rfl dX9_isInTheWay_21 ?_
  refine lv_iload_n hx hb dX9_isInTheWay_24 rfl (lv_at hl 1 rfl) ?_
  obtain ⟨v25, e25, h⟩ := bnd h
  refine x_iald (v := v25) hx hb hK hP 12 0 rfl rfl e25 dX9_isInTheWay_25 ?_
  refine lv_iload_n hx hb dX9_isInTheWay_26 rfl (lv_at hl 2 rfl) ?_
  refine lv_icmp_ne (tgt := 44) hx hb dX9_isInTheWay_27 (by decide) (fun c27 => ?_) (fun c27 => ?_)
  · replace h := if_f h c27
    refine lv_iconst (v := 0) hx hb dX9_isInTheWay_44 (by decide) ?_
    obtain rfl := Option.some.inj h
    exact hr45 H locs ls hP hD hS hl
  replace h := if_t h c27
  refine lv_aload_n hx hb dX9_isInTheWay_30 rfl (lv_at hl 0 rfl) ?_
  refine va_get (D := (dC, dI)) (ci := 4) (v := .ref (a0 13)) (C := RX9) (T := TX9) (N := 18) hx hb htg inX9 hown hK hP 0 rfl rfl 16 (by decide) (htg _ gw866) (fun _ h9 => h9) rfl dX9_isInTheWay_31 ?_
  refine lv_iload_n hx hb dX9_isInTheWay_34 rfl (lv_at hl 1 rfl) ?_
  obtain ⟨v35, e35, h⟩ := bnd h
  refine x_iald (v := v35) hx hb hK hP 13 0 rfl rfl e35 dX9_isInTheWay_35 ?_
  refine lv_iload_n hx hb dX9_isInTheWay_36 rfl (lv_at hl 3 rfl) ?_
  refine lv_icmp_ne (tgt := 44) hx hb dX9_isInTheWay_37 (by decide) (fun c37 => ?_) (fun c37 => ?_)
  · replace h := if_f h c37
    refine lv_iconst (v := 0) hx hb dX9_isInTheWay_44 (by decide) ?_
    obtain rfl := Option.some.inj h
    exact hr45 H locs ls hP hD hS hl
  replace h := if_t h c37
  refine lv_iconst (v := 1) hx hb dX9_isInTheWay_40 (by decide) ?_
  refine lv_goto (tgt := 45) hx hb dX9_isInTheWay_41 (by decide) ?_
  obtain rfl := Option.some.inj h
  exact hr45 H locs ls hP hD hS hl
def G_X9_areSeeing_L23   : Nat → Mod → Int32 → Int32 → Int32 → Int32 → Int32 → Int32 → Option (Int32 × Mod)
  | 0, _, _, _, _, _, _, _ => none
  | n23 + 1, m0_23, l6_23, l5_23, l1_23, l2_23, l3_23, l4_23 =>
    if m_sides m0_23 ≤ l6_23 then
      if l5_23 = 0 then
        some (0, m0_23)
      else
        (G_X9_x m0_23 l1_23 l2_23).bind fun v94 =>
        (G_X9_x m0_23 l3_23 l4_23).bind fun v101 =>
        (G_X9_y m0_23 l1_23 l2_23).bind fun v108 =>
        (G_X9_y m0_23 l3_23 l4_23).bind fun v115 =>
        (G_X9_whereNotOn m0_23 (v94 + v101) (v108 + v115)).bind fun v119 =>
        if v119 = 2 then
          some (1, m0_23)
        else
          some (0, m0_23)
    else
      ((if l5_23 = 0 then
          some 0
        else
          (G_X9_x m0_23 l1_23 l2_23).bind fun v43 =>
          (G_X9_y m0_23 l1_23 l2_23).bind fun v49 =>
          (G_X9_x m0_23 l3_23 l4_23).bind fun v56 =>
          (G_X9_y m0_23 l3_23 l4_23).bind fun v63 =>
          (G_X9_isInTheWay m0_23 l6_23 v43 v49 v56 v63).bind fun v66 =>
          if v66 = 0 then
            some 1
          else
            some 0) : Option (Int32)).bind fun b34 =>
      (G_X9_areSeeing_L23 n23) m0_23 (l6_23 + 1) b34 l1_23 l2_23 l3_23 l4_23
def G_X9_areSeeing_j13   (m0_13 : Mod) (l1_13 : Int32) (l2_13 : Int32) (l3_13 : Int32) (l4_13 : Int32) : Option (Int32 × Mod) :=
  (G_X9_findSides m0_13).bind fun v14 =>
  G_X9_areSeeing_L23 FU v14 0 1 l1_13 l2_13 l3_13 l4_13
def G_X9_areSeeing (m0 : Mod) (p1 : Int32) (p2 : Int32) (p3 : Int32) (p4 : Int32) : Option (Int32 × Mod) :=
  if p1 = p3 then
    if p2 = p4 then
      some (0, m0)
    else
      G_X9_areSeeing_j13 m0 p1 p2 p3 p4
  else
    G_X9_areSeeing_j13 m0 p1 p2 p3 p4
abbrev rm_X9_areSeeing : Room := { frames := 4, cells := 0, slots := 0, locals := 108 }
theorem hdS_X9_areSeeing : yX9_areSeeing.cls ≠ "java/lang/invoke/MethodHandle" ∧ yX9_areSeeing.cls ≠ "java/lang/invoke/VarHandle" ∧ (parseMethodDescriptor yX9_areSeeing.desc).map (fun d => d.parameters.length) = some 4 := by decide +kernel
theorem hdV_X9_areSeeing : yX9_areSeeing.cls = RX9 ∧ yX9_areSeeing.cls ≠ "java/lang/invoke/MethodHandle" ∧ yX9_areSeeing.cls ≠ "java/lang/invoke/VarHandle" ∧ (parseMethodDescriptor yX9_areSeeing.desc).map (fun d => d.parameters.length) = some 4 := ⟨rfl, hdS_X9_areSeeing⟩
set_option maxHeartbeats 4000000 in
set_option maxRecDepth 100000 in
theorem c_X9_areSeeing (l : Launch) (dC : Nat → ClassId) (dI : Nat → Nat → Nat) (cy : Nat → ClassId) (a0 : Nat → Nat) (m0 : Mod) (p1 : Int32) (p2 : Int32) (p3 : Int32) (p4 : Int32) (res : Int32 × Mod) (h : G_X9_areSeeing m0 p1 p2 p3 p4 = some res) : CT l (dC, dI) (TY cy) yX9_areSeeing cX9_areSeeing 7 (some .boolean) rm_X9_areSeeing [.ref (a0 0), .int p1, .int p2, .int p3, .int p4] (wMod a0 cy m0) (wMod a0 cy res.2) (some (.int res.1)) := by
  refine CT.mk_z (own := RX9) ⟨by decide, rfl⟩ (Nat.le_of_ble_eq_true rfl) ?_
  intro p e s mm args below meth cd A Q hx hb hml hown htg hN hK hA hP hD hS hE ls hl
  have hl : lv_has ls 7 [(0, .ref (a0 0)), (1, .int p1), (2, .int p2), (3, .int p3), (4, .int p4)] := hl
  replace h : _ = some res := h
  unfold G_X9_areSeeing at h
  obtain ⟨H, hH⟩ : ∃ H, H = s.heap := ⟨_, rfl⟩
  obtain ⟨locs, hlocs⟩ : ∃ locs : List Loc, locs = [] := ⟨_, rfl⟩
  rw [← hlocs] at hS ⊢
  have hS : va_S A s.heap H locs := by rw [hH]; exact hS
  rw [← hH] at hP ⊢
  refine lv_iload_n hx hb dX9_areSeeing_0 rfl (lv_at hl 1 rfl) ?_
  refine lv_iload_n hx hb dX9_areSeeing_1 rfl (lv_at hl 3 rfl) ?_
  have hj13 : ∀ (m0_13 : Mod) (l1_13 : Int32) (l2_13 : Int32) (l3_13 : Int32) (l4_13 : Int32) (H : Heap) (locs : List Loc) (ls : Array Slot), G_X9_areSeeing_j13 m0_13 l1_13 l2_13 l3_13 l4_13 = some res → va_P (dC, dI) vwCl (wMod a0 cy m0_13) H → va_D A (wMod a0 cy m0_13) → va_S A s.heap H locs → lv_has ls 7 [(0, .ref (a0 0)), (1, .int l1_13), (2, .int l2_13), (3, .int l3_13), (4, .int l4_13)] → W p l e rm_X9_areSeeing s mm args below meth cd H locs 0 0 Q (F0 mm 13 ls []) := by
    intro m0_13 l1_13 l2_13 l3_13 l4_13 H locs ls h hP hD hS hl
    unfold G_X9_areSeeing_j13 at h
    refine lv_aload_n hx hb dX9_areSeeing_13 rfl (lv_at hl 0 rfl) ?_
    obtain ⟨v14, e14, h⟩ := bnd h
    refine cV (av := []) (rest := []) (st1 := []) (k1 := 0) (k2 := 0) (ci := 4) (q0 := 0) hx hb hml hown htg hN hK (c_X9_findSides l dC dI cy a0 m0_13  v14 e14) (g_V gw943 gw945 gw12 gw63 gw946) hdV_X9_findSides rfl ⟨⟨Nat.le_of_ble_eq_true rfl, Nat.le_of_ble_eq_true rfl⟩, Nat.le_of_ble_eq_true rfl, Nat.le_of_ble_eq_true rfl⟩ hP hD hS hA ⟨rfl, rfl⟩ rfl [0, 1, 2, 3, 4, 5, 6, 7, 8, 9, 10, 11, 12, 13, 14] [] rfl rfl rfl (by decide) (by decide) hl.1 rfl (Nat.le_of_ble_eq_true rfl) rfl rfl rfl dX9_areSeeing_14 (fun H locs hP hD hS => ?_)
    have hP : va_P (dC, dI) vwCl (wMod a0 cy v14) H := hP
    have hD : va_D A (wMod a0 cy v14) := hD
    refine lv_iconst (v := 1) hx hb dX9_areSeeing_17 (by decide) ?_
    refine lv_istore (lv' := [(5, .int 1), (0, .ref (a0 0)), (1, .int l1_13), (2, .int l2_13), (3, .int l3_13), (4, .int l4_13)]) hx hb dX9_areSeeing_18 hl (by decide) rfl (fun ls hl => ?_)
    refine lv_iconst (v := 0) hx hb dX9_areSeeing_20 (by decide) ?_
    refine lv_istore (lv' := [(6, .int 0), (5, .int 1), (0, .ref (a0 0)), (1, .int l1_13), (2, .int l2_13), (3, .int l3_13), (4, .int l4_13)]) hx hb dX9_areSeeing_21 hl (by decide) rfl (fun ls hl => ?_)
    have hL23 : ∀ (n23 : Nat) (m0_23 : Mod) (l6_23 : Int32) (l5_23 : Int32) (l1_23 : Int32) (l2_23 : Int32) (l3_23 : Int32) (l4_23 : Int32) (H : Heap) (locs : List Loc) (ls : Array Slot), G_X9_areSeeing_L23 n23 m0_23 l6_23 l5_23 l1_23 l2_23 l3_23 l4_23 = some res → va_P (dC, dI) vwCl (wMod a0 cy m0_23) H → va_D A (wMod a0 cy m0_23) → va_S A s.heap H locs → lv_has ls 7 [(6, .int l6_23), (5, .int l5_23), (0, .ref (a0 0)), (1, .int l1_23), (2, .int l2_23), (3, .int l3_23), (4, .int l4_23)] → W p l e rm_X9_areSeeing s mm args below meth cd H locs 0 0 Q (F0 mm 23 ls []) := by
      intro n23
      induction n23 with
      | zero => intro m0_23 l6_23 l5_23 l1_23 l2_23 l3_23 l4_23 H locs ls h; exact absurd h (by simp [G_X9_areSeeing_L23])
      | succ n23 ih23 =>
        intro m0_23 l6_23 l5_23 l1_23 l2_23 l3_23 l4_23 H locs ls h hP hD hS hl
        rw [G_X9_areSeeing_L23] at h
        refine lv_iload hx hb dX9_areSeeing_23 (lv_at hl 0 rfl) ?_
        refine lv_aload_n hx hb dX9_areSeeing_25 rfl (lv_at hl 2 rfl) ?_
        refine va_get (D := (dC, dI)) (ci := 4) (v := .int (m_sides m0_23)) (C := RX9) (T := TX9) (N := 18) hx hb htg inX9 hown hK hP 0 rfl rfl 10 (by decide) (htg _ gw860) (fun _ h9 => h9) rfl dX9_areSeeing_26 ?_
        refine lv_icmp_ge (tgt := 85) hx hb dX9_areSeeing_29 (by decide) (fun c29 => ?_) (fun c29 => ?_)
        · replace h := if_t h c29
          refine lv_iload hx hb dX9_areSeeing_85 (lv_at hl 1 rfl) ?_
          refine lv_if_eq (tgt := 130) hx hb dX9_areSeeing_87 (by decide) (fun c87 => ?_) (fun c87 => ?_)
          · replace h := if_t h c87
            refine lv_iconst (v := 0) hx hb dX9_areSeeing_130 (by decide) ?_
            obtain rfl := Option.some.inj h
            exact hE H locs 131 ls _ hP hD hS rfl (Or.inl rfl) dX9_areSeeing_131
          replace h := if_f h c87
          refine lv_aload_n hx hb dX9_areSeeing_90 rfl (lv_at hl 2 rfl) ?_
          refine lv_aload_n hx hb dX9_areSeeing_91 rfl (lv_at hl 2 rfl) ?_
          refine lv_iload_n hx hb dX9_areSeeing_92 rfl (lv_at hl 3 rfl) ?_
          refine lv_iload_n hx hb dX9_areSeeing_93 rfl (lv_at hl 4 rfl) ?_
          obtain ⟨v94, e94, h⟩ := bnd h
          refine cV (av := [.int l1_23, .int l2_23]) (rest := [.ref (a0 0)]) (st1 := [.int v94, .ref (a0 0)]) (k1 := 0) (k2 := 0) (ci := 4) (q0 := 0) hx hb hml hown htg hN hK (c_X9_x l dC dI cy a0 m0_23 l1_23 l2_23 v94 e94) (g_V gw947 gw949 gw13 gw63 gw950) hdV_X9_x rfl ⟨⟨Nat.le_of_ble_eq_true rfl, Nat.le_of_ble_eq_true rfl⟩, Nat.le_of_ble_eq_true rfl, Nat.le_of_ble_eq_true rfl⟩ hP hD hS hA ⟨rfl, rfl⟩ rfl [0, 1, 2, 3, 4, 5, 6, 7, 8, 9, 10, 11, 12, 13, 14] [] rfl rfl rfl (by decide) (by decide) hl.1 rfl (Nat.le_of_ble_eq_true rfl) rfl rfl rfl dX9_areSeeing_94 (fun H locs hP hD hS => ?_)
          have hP : va_P (dC, dI) vwCl (wMod a0 cy m0_23) H := hP
          have hD : va_D A (wMod a0 cy m0_23) := hD
          refine lv_aload_n hx hb dX9_areSeeing_97 rfl (lv_at hl 2 rfl) ?_
          refine lv_iload_n hx hb dX9_areSeeing_98 rfl (lv_at hl 5 rfl) ?_
          refine lv_iload hx hb dX9_areSeeing_99 (lv_at hl 6 rfl) ?_
          obtain ⟨v101, e101, h⟩ := bnd h
          refine cV (av := [.int l3_23, .int l4_23]) (rest := [.int v94, .ref (a0 0)]) (st1 := [.int v101, .int v94, .ref (a0 0)]) (k1 := 0) (k2 := 0) (ci := 4) (q0 := 0) hx hb hml hown htg hN hK (c_X9_x l dC dI cy a0 m0_23 l3_23 l4_23 v101 e101) (g_V gw947 gw949 gw13 gw63 gw950) hdV_X9_x rfl ⟨⟨Nat.le_of_ble_eq_true rfl, Nat.le_of_ble_eq_true rfl⟩, Nat.le_of_ble_eq_true rfl, Nat.le_of_ble_eq_true rfl⟩ hP hD hS hA ⟨rfl, rfl⟩ rfl [0, 1, 2, 3, 4, 5, 6, 7, 8, 9, 10, 11, 12, 13, 14] [] rfl rfl rfl (by decide) (by decide) hl.1 rfl (Nat.le_of_ble_eq_true rfl) rfl rfl rfl dX9_areSeeing_101 (fun H locs hP hD hS => ?_)
          have hP : va_P (dC, dI) vwCl (wMod a0 cy m0_23) H := hP
          have hD : va_D A (wMod a0 cy m0_23) := hD
          refine lv_iadd hx hb dX9_areSeeing_104 ?_
          refine lv_aload_n hx hb dX9_areSeeing_105 rfl (lv_at hl 2 rfl) ?_
          refine lv_iload_n hx hb dX9_areSeeing_106 rfl (lv_at hl 3 rfl) ?_
          refine lv_iload_n hx hb dX9_areSeeing_107 rfl (lv_at hl 4 rfl) ?_
          obtain ⟨v108, e108, h⟩ := bnd h
          refine cV (av := [.int l1_23, .int l2_23]) (rest := [.int (v94 + v101), .ref (a0 0)]) (st1 := [.int v108, .int (v94 + v101), .ref (a0 0)]) (k1 := 0) (k2 := 0) (ci := 4) (q0 := 0) hx hb hml hown htg hN hK (c_X9_y l dC dI cy a0 m0_23 l1_23 l2_23 v108 e108) (g_V gw951 gw953 gw14 gw63 gw954) hdV_X9_y rfl ⟨⟨Nat.le_of_ble_eq_true rfl, Nat.le_of_ble_eq_true rfl⟩, Nat.le_of_ble_eq_true rfl, Nat.le_of_ble_eq_true rfl⟩ hP hD hS hA ⟨rfl, rfl⟩ rfl [0, 1, 2, 3, 4, 5, 6, 7, 8, 9, 10, 11, 12, 13, 14] [] rfl rfl rfl (by decide) (by decide) hl.1 rfl (Nat.le_of_ble_eq_true rfl) rfl rfl rfl dX9_areSeeing_108 (fun H locs hP hD hS => ?_)
          have hP : va_P (dC, dI) vwCl (wMod a0 cy m0_23) H := hP
          have hD : va_D A (wMod a0 cy m0_23) := hD
          refine lv_aload_n hx hb dX9_areSeeing_111 rfl (lv_at hl 2 rfl) ?_
          refine lv_iload_n hx hb dX9_areSeeing_112 rfl (lv_at hl 5 rfl) ?_
          refine lv_iload hx hb dX9_areSeeing_113 (lv_at hl 6 rfl) ?_
          obtain ⟨v115, e115, h⟩ := bnd h
          refine cV (av := [.int l3_23, .int l4_23]) (rest := [.int v108, .int (v94 + v101), .ref (a0 0)]) (st1 := [.int v115, .int v108, .int (v94 + v101), .ref (a0 0)]) (k1 := 0) (k2 := 0) (ci := 4) (q0 := 0) hx hb hml hown htg hN hK (c_X9_y l dC dI cy a0 m0_23 l3_23 l4_23 v115 e115) (g_V gw951 gw953 gw14 gw63 gw954) hdV_X9_y rfl ⟨⟨Nat.le_of_ble_eq_true rfl, Nat.le_of_ble_eq_true rfl⟩, Nat.le_of_ble_eq_true rfl, Nat.le_of_ble_eq_true rfl⟩ hP hD hS hA ⟨rfl, rfl⟩ rfl [0, 1, 2, 3, 4, 5, 6, 7, 8, 9, 10, 11, 12, 13, 14] [] rfl rfl rfl (by decide) (by decide) hl.1 rfl (Nat.le_of_ble_eq_true rfl) rfl rfl rfl dX9_areSeeing_115 (fun H locs hP hD hS => ?_)
          have hP : va_P (dC, dI) vwCl (wMod a0 cy m0_23) H := hP
          have hD : va_D A (wMod a0 cy m0_23) := hD
          refine lv_iadd hx hb dX9_areSeeing_118 ?_
          obtain ⟨v119, e119, h⟩ := bnd h
          refine cV (av := [.int (v94 + v101), .int (v108 + v115)]) (rest := []) (st1 := [.int v119]) (k1 := 0) (k2 := 0) (ci := 4) (q0 := 0) hx hb hml hown htg hN hK (c_X9_whereNotOn l dC dI cy a0 m0_23 (v94 + v101) (v108 + v115) v119 e119) (g_V gw1038 gw1040 gw30 gw63 gw1041) hdV_X9_whereNotOn rfl ⟨⟨Nat.le_of_ble_eq_true rfl, Nat.le_of_ble_eq_true rfl⟩, Nat.le_of_ble_eq_true rfl, Nat.le_of_ble_eq_true rfl⟩ hP hD hS hA ⟨rfl, rfl⟩ rfl [0, 1, 2, 3, 4, 5, 6, 7, 8, 9, 10, 11, 12, 13, 14] [] rfl rfl rfl (by decide) (by decide) hl.1 rfl (Nat.le_of_ble_eq_true rfl) rfl rfl rfl dX9_areSeeing_119 (fun H locs hP hD hS => ?_)
          have hP : va_P (dC, dI) vwCl (wMod a0 cy m0_23) H := hP
          have hD : va_D A (wMod a0 cy m0_23) := hD
          refine lv_iconst (v := 2) hx hb dX9_areSeeing_122 (by decide) ?_
          refine lv_icmp_ne (tgt := 130) hx hb dX9_areSeeing_123 (by decide) (fun c123 => ?_) (fun c123 => ?_)
          · replace h := if_f h c123
            refine lv_iconst (v := 0) hx hb dX9_areSeeing_130 (by decide) ?_
            obtain rfl := Option.some.inj h
            exact hE H locs 131 ls _ hP hD hS rfl (Or.inl rfl) dX9_areSeeing_131
          replace h := if_t h c123
          refine lv_iconst (v := 1) hx hb dX9_areSeeing_126 (by decide) ?_
          refine lv_goto (tgt := 131) hx hb dX9_areSeeing_127 (by decide) ?_
          obtain rfl := Option.some.inj h
          exact hE H locs 131 ls _ hP hD hS rfl (Or.inr rfl) dX9_areSeeing_131
        replace h := if_f h c29
        refine lv_iload hx hb dX9_areSeeing_32 (lv_at hl 1 rfl) ?_
        obtain ⟨b34, e34, h⟩ := bnd h
        have hr77 : ∀ (H : Heap) (locs : List Loc) (ls : Array Slot), va_P (dC, dI) vwCl (wMod a0 cy m0_23) H → va_D A (wMod a0 cy m0_23) → va_S A s.heap H locs → lv_has ls 7 [(6, .int l6_23), (5, .int l5_23), (0, .ref (a0 0)), (1, .int l1_23), (2, .int l2_23), (3, .int l3_23), (4, .int l4_23)] → W p l e rm_X9_areSeeing s mm args below meth cd H locs 0 0 Q (F0 mm 77 ls [.int b34]) := by
          intro H locs ls hP hD hS hl
          refine lv_istore (lv' := [(5, .int b34), (6, .int l6_23), (0, .ref (a0 0)), (1, .int l1_23), (2, .int l2_23), (3, .int l3_23), (4, .int l4_23)]) hx hb dX9_areSeeing_77 hl (by decide) rfl (fun ls hl => ?_)
          refine lv_iinc (v := l6_23 + 1) (lv' := [(6, .int (l6_23 + 1)), (5, .int b34), (0, .ref (a0 0)), (1, .int l1_23), (2, .int l2_23), (3, .int l3_23), (4, .int l4_23)]) hx hb dX9_areSeeing_79 hl (k := 1) rfl rfl (by decide) rfl (fun ls hl => ?_)
          refine lv_goto (tgt := 23) hx hb dX9_areSeeing_82 (by decide) ?_
          exact ih23 m0_23 (l6_23 + 1) b34 l1_23 l2_23 l3_23 l4_23 H locs ls h hP hD hS (lv_sub hl [0, 1, 2, 3, 4, 5, 6] rfl)
        have h := e34
        clear e34
        refine lv_if_eq (tgt := 76) hx hb dX9_areSeeing_34 (by decide) (fun c34 => ?_) (fun c34 => ?_)
        · replace h := if_t h c34
          refine lv_iconst (v := 0) hx hb dX9_areSeeing_76 (by decide) ?_
          obtain rfl := Option.some.inj h
          exact hr77 H locs ls hP hD hS hl
        replace h := if_f h c34
        refine lv_aload_n hx hb dX9_areSeeing_37 rfl (lv_at hl 2 rfl) ?_
        refine lv_iload hx hb dX9_areSeeing_38 (lv_at hl 0 rfl) ?_
        refine lv_aload_n hx hb dX9_areSeeing_40 rfl (lv_at hl 2 rfl) ?_
        refine lv_iload_n hx hb dX9_areSeeing_41 rfl (lv_at hl 3 rfl) ?_
        refine lv_iload_n hx hb dX9_areSeeing_42 rfl (lv_at hl 4 rfl) ?_
        obtain ⟨v43, e43, h⟩ := bnd h
        refine cV (av := [.int l1_23, .int l2_23]) (rest := [.int l6_23, .ref (a0 0)]) (st1 := [.int v43, .int l6_23, .ref (a0 0)]) (k1 := 0) (k2 := 0) (ci := 4) (q0 := 0) hx hb hml hown htg hN hK (c_X9_x l dC dI cy a0 m0_23 l1_23 l2_23 v43 e43) (g_V gw947 gw949 gw13 gw63 gw950) hdV_X9_x rfl ⟨⟨Nat.le_of_ble_eq_true rfl, Nat.le_of_ble_eq_true rfl⟩, Nat.le_of_ble_eq_true rfl, Nat.le_of_ble_eq_true rfl⟩ hP hD hS hA ⟨rfl, rfl⟩ rfl [0, 1, 2, 3, 4, 5, 6, 7, 8, 9, 10, 11, 12, 13, 14] [] rfl rfl rfl (by decide) (by decide) hl.1 rfl (Nat.le_of_ble_eq_true rfl) rfl rfl rfl dX9_areSeeing_43 (fun H locs hP hD hS => ?_)
        have hP : va_P (dC, dI) vwCl (wMod a0 cy m0_23) H := hP
        have hD : va_D A (wMod a0 cy m0_23) := hD
        refine lv_aload_n hx hb dX9_areSeeing_46 rfl (lv_at hl 2 rfl) ?_
        refine lv_iload_n hx hb dX9_areSeeing_47 rfl (lv_at hl 3 rfl) ?_
        refine lv_iload_n hx hb dX9_areSeeing_48 rfl (lv_at hl 4 rfl) ?_
        obtain ⟨v49, e49, h⟩ := bnd h
        refine cV (av := [.int l1_23, .int l2_23]) (rest := [.int v43, .int l6_23, .ref (a0 0)]) (st1 := [.int v49, .int v43, .int l6_23, .ref (a0 0)]) (k1 := 0) (k2 := 0) (ci := 4) (q0 := 0) hx hb hml hown htg hN hK (c_X9_y l dC dI cy a0 m0_23 l1_23 l2_23 v49 e49) (g_V gw951 gw953 gw14 gw63 gw954) hdV_X9_y rfl ⟨⟨Nat.le_of_ble_eq_true rfl, Nat.le_of_ble_eq_true rfl⟩, Nat.le_of_ble_eq_true rfl, Nat.le_of_ble_eq_true rfl⟩ hP hD hS hA ⟨rfl, rfl⟩ rfl [0, 1, 2, 3, 4, 5, 6, 7, 8, 9, 10, 11, 12, 13, 14] [] rfl rfl rfl (by decide) (by decide) hl.1 rfl (Nat.le_of_ble_eq_true rfl) rfl rfl rfl dX9_areSeeing_49 (fun H locs hP hD hS => ?_)
        have hP : va_P (dC, dI) vwCl (wMod a0 cy m0_23) H := hP
        have hD : va_D A (wMod a0 cy m0_23) := hD
        refine lv_aload_n hx hb dX9_areSeeing_52 rfl (lv_at hl 2 rfl) ?_
        refine lv_iload_n hx hb dX9_areSeeing_53 rfl (lv_at hl 5 rfl) ?_
        refine lv_iload hx hb dX9_areSeeing_54 (lv_at hl 6 rfl) ?_
        obtain ⟨v56, e56, h⟩ := bnd h
        refine cV (av := [.int l3_23, .int l4_23]) (rest := [.int v49, .int v43, .int l6_23, .ref (a0 0)]) (st1 := [.int v56, .int v49, .int v43, .int l6_23, .ref (a0 0)]) (k1 := 0) (k2 := 0) (ci := 4) (q0 := 0) hx hb hml hown htg hN hK (c_X9_x l dC dI cy a0 m0_23 l3_23 l4_23 v56 e56) (g_V gw947 gw949 gw13 gw63 gw950) hdV_X9_x rfl ⟨⟨Nat.le_of_ble_eq_true rfl, Nat.le_of_ble_eq_true rfl⟩, Nat.le_of_ble_eq_true rfl, Nat.le_of_ble_eq_true rfl⟩ hP hD hS hA ⟨rfl, rfl⟩ rfl [0, 1, 2, 3, 4, 5, 6, 7, 8, 9, 10, 11, 12, 13, 14] [] rfl rfl rfl (by decide) (by decide) hl.1 rfl (Nat.le_of_ble_eq_true rfl) rfl rfl rfl dX9_areSeeing_56 (fun H locs hP hD hS => ?_)
        have hP : va_P (dC, dI) vwCl (wMod a0 cy m0_23) H := hP
        have hD : va_D A (wMod a0 cy m0_23) := hD
        refine lv_aload_n hx hb dX9_areSeeing_59 rfl (lv_at hl 2 rfl) ?_
        refine lv_iload_n hx hb dX9_areSeeing_60 rfl (lv_at hl 5 rfl) ?_
        refine lv_iload hx hb dX9_areSeeing_61 (lv_at hl 6 rfl) ?_
        obtain ⟨v63, e63, h⟩ := bnd h
        refine cV (av := [.int l3_23, .int l4_23]) (rest := [.int v56, .int v49, .int v43, .int l6_23, .ref (a0 0)]) (st1 := [.int v63, .int v56, .int v49, .int v43, .int l6_23, .ref (a0 0)]) (k1 := 0) (k2 := 0) (ci := 4) (q0 := 0) hx hb hml hown htg hN hK (c_X9_y l dC dI cy a0 m0_23 l3_23 l4_23 v63 e63) (g_V gw951 gw953 gw14 gw63 gw954) hdV_X9_y rfl ⟨⟨Nat.le_of_ble_eq_true rfl, Nat.le_of_ble_eq_true rfl⟩, Nat.le_of_ble_eq_true rfl, Nat.le_of_ble_eq_true rfl⟩ hP hD hS hA ⟨rfl, rfl⟩ rfl [0, 1, 2, 3, 4, 5, 6, 7, 8, 9, 10, 11, 12, 13, 14] [] rfl rfl rfl (by decide) (by decide) hl.1 rfl (Nat.le_of_ble_eq_true rfl) rfl rfl rfl dX9_areSeeing_63 (fun H locs hP hD hS => ?_)
        have hP : va_P (dC, dI) vwCl (wMod a0 cy m0_23) H := hP
        have hD : va_D A (wMod a0 cy m0_23) := hD
        obtain ⟨v66, e66, h⟩ := bnd h
        refine cV (av := [.int l6_23, .int v43, .int v49, .int v56, .int v63]) (rest := []) (st1 := [.int v66]) (k1 := 0) (k2 := 0) (ci := 4) (q0 := 0) hx hb hml hown htg hN hK (c_X9_isInTheWay l dC dI cy a0 m0_23 l6_23 v43 v49 v56 v63 v66 e66) (g_V gw1066 gw1068 gw37 gw63 gw1069) hdV_X9_isInTheWay rfl ⟨⟨Nat.le_of_ble_eq_true rfl, Nat.le_of_ble_eq_true rfl⟩, Nat.le_of_ble_eq_true rfl, Nat.le_of_ble_eq_true rfl⟩ hP hD hS hA ⟨rfl, rfl⟩ rfl [0, 1, 2, 3, 4, 5, 6, 7, 8, 9, 10, 11, 12, 13, 14] [] rfl rfl rfl (by decide) (by decide) hl.1 rfl (Nat.le_of_ble_eq_true rfl) rfl rfl rfl dX9_areSeeing_66 (fun H locs hP hD hS => ?_)
        have hP : va_P (dC, dI) vwCl (wMod a0 cy m0_23) H := hP
        have hD : va_D A (wMod a0 cy m0_23) := hD
        refine lv_if_ne (tgt := 76) hx hb dX9_areSeeing_69 (by decide) (fun c69 => ?_) (fun c69 => ?_)
        · replace h := if_f h c69
          refine lv_iconst (v := 0) hx hb dX9_areSeeing_76 (by decide) ?_
          obtain rfl := Option.some.inj h
          exact hr77 H locs ls hP hD hS hl
        replace h := if_t h c69
        refine lv_iconst (v := 1) hx hb dX9_areSeeing_72 (by decide) ?_
        refine lv_goto (tgt := 77) hx hb dX9_areSeeing_73 (by decide) ?_
        obtain rfl := Option.some.inj h
        exact hr77 H locs ls hP hD hS hl
    exact hL23 FU v14 0 1 l1_13 l2_13 l3_13 l4_13 H locs ls h hP hD hS (lv_sub hl [0, 1, 2, 3, 4, 5, 6] rfl)
  refine lv_icmp_ne (tgt := 13) hx hb dX9_areSeeing_2 (by decide) (fun c2 => ?_) (fun c2 => ?_)
  · replace h := if_f h c2
    exact hj13 m0 p1 p2 p3 p4 H locs ls h hP hD hS (lv_sub hl [0, 1, 2, 3, 4] rfl)
  replace h := if_t h c2
  refine lv_iload_n hx hb dX9_areSeeing_5 rfl (lv_at hl 2 rfl) ?_
  refine lv_iload hx hb dX9_areSeeing_6 (lv_at hl 4 rfl) ?_
  refine lv_icmp_ne (tgt := 13) hx hb dX9_areSeeing_8 (by decide) (fun c8 => ?_) (fun c8 => ?_)
  · replace h := if_f h c8
    exact hj13 m0 p1 p2 p3 p4 H locs ls h hP hD hS (lv_sub hl [0, 1, 2, 3, 4] rfl)
  replace h := if_t h c8
  refine lv_iconst (v := 0) hx hb dX9_areSeeing_11 (by decide) ?_
  obtain rfl := Option.some.inj h
  exact hE H locs 12 ls _ hP hD hS rfl (Or.inl rfl) dX9_areSeeing_12
def G_X9_isEar (m0 : Mod) (p1 : Int32) : Option (Int32 × Mod) :=
  (G_X9_many m0 0).bind fun v2 =>
  if v2 ≤ 3 then
    some (0, m0)
  else
    (G_X9_kind m0 0 p1).bind fun v12 =>
    if v12 = 1 then
      (G_X9_before m0 0 p1).bind fun v24 =>
      (G_X9_next m0 0 p1).bind fun v31 =>
      (G_X9_areSeeing m0 0 v24 0 v31).bind fun v34 =>
      if v34.1 = 0 then
        some (0, v34.2)
      else
        some (1, v34.2)
    else
      some (0, m0)
abbrev rm_X9_isEar : Room := { frames := 5, cells := 0, slots := 0, locals := 134 }
theorem hdS_X9_isEar : yX9_isEar.cls ≠ "java/lang/invoke/MethodHandle" ∧ yX9_isEar.cls ≠ "java/lang/invoke/VarHandle" ∧ (parseMethodDescriptor yX9_isEar.desc).map (fun d => d.parameters.length) = some 1 := by decide +kernel
theorem hdV_X9_isEar : yX9_isEar.cls = RX9 ∧ yX9_isEar.cls ≠ "java/lang/invoke/MethodHandle" ∧ yX9_isEar.cls ≠ "java/lang/invoke/VarHandle" ∧ (parseMethodDescriptor yX9_isEar.desc).map (fun d => d.parameters.length) = some 1 := ⟨rfl, hdS_X9_isEar⟩
set_option maxHeartbeats 4000000 in
set_option maxRecDepth 100000 in
theorem c_X9_isEar (l : Launch) (dC : Nat → ClassId) (dI : Nat → Nat → Nat) (cy : Nat → ClassId) (a0 : Nat → Nat) (m0 : Mod) (p1 : Int32) (res : Int32 × Mod) (h : G_X9_isEar m0 p1 = some res) : CT l (dC, dI) (TY cy) yX9_isEar cX9_isEar 2 (some .boolean) rm_X9_isEar [.ref (a0 0), .int p1] (wMod a0 cy m0) (wMod a0 cy res.2) (some (.int res.1)) := by
  refine CT.mk_z (own := RX9) ⟨by decide, rfl⟩ (Nat.le_of_ble_eq_true rfl) ?_
  intro p e s mm args below meth cd A Q hx hb hml hown htg hN hK hA hP hD hS hE ls hl
  have hl : lv_has ls 2 [(0, .ref (a0 0)), (1, .int p1)] := hl
  replace h : _ = some res := h
  unfold G_X9_isEar at h
  obtain ⟨H, hH⟩ : ∃ H, H = s.heap := ⟨_, rfl⟩
  obtain ⟨locs, hlocs⟩ : ∃ locs : List Loc, locs = [] := ⟨_, rfl⟩
  rw [← hlocs] at hS ⊢
  have hS : va_S A s.heap H locs := by rw [hH]; exact hS
  rw [← hH] at hP ⊢
  refine lv_aload_n hx hb dX9_isEar_0 rfl (lv_at hl 0 rfl) ?_
  refine lv_iconst (v := 0) hx hb dX9_isEar_1 (by decide) ?_
  obtain ⟨v2, e2, h⟩ := bnd h
  refine cV (av := [.int 0]) (rest := []) (st1 := [.int v2]) (k1 := 0) (k2 := 0) (ci := 4) (q0 := 0) hx hb hml hown htg hN hK (c_X9_many l dC dI cy a0 m0 0 v2 e2) (g_V gw935 gw937 gw10 gw63 gw938) hdV_X9_many rfl ⟨⟨Nat.le_of_ble_eq_true rfl, Nat.le_of_ble_eq_true rfl⟩, Nat.le_of_ble_eq_true rfl, Nat.le_of_ble_eq_true rfl⟩ hP hD hS hA ⟨rfl, rfl⟩ rfl [0, 1, 2, 3, 4, 5, 6, 7, 8, 9, 10, 11, 12, 13, 14] [] rfl rfl rfl (by decide) (by decide) hl.1 rfl (Nat.le_of_ble_eq_true rfl) rfl rfl rfl dX9_isEar_2 (fun H locs hP hD hS => ?_)
  have hP : va_P (dC, dI) vwCl (wMod a0 cy m0) H := hP
  have hD : va_D A (wMod a0 cy m0) := hD
  refine lv_iconst (v := 3) hx hb dX9_isEar_5 (by decide) ?_
  refine lv_icmp_le (tgt := 44) hx hb dX9_isEar_6 (by decide) (fun c6 => ?_) (fun c6 => ?_)
  · replace h := if_t h c6
    refine lv_iconst (v := 0) hx hb dX9_isEar_44 (by decide) ?_
    obtain rfl := Option.some.inj h
    exact hE H locs 45 ls _ hP hD hS rfl (Or.inl rfl) dX9_isEar_45
  replace h := if_f h c6
  refine lv_aload_n hx hb dX9_isEar_9 rfl (lv_at hl 0 rfl) ?_
  refine lv_iconst (v := 0) hx hb dX9_isEar_10 (by decide) ?_
  refine lv_iload_n hx hb dX9_isEar_11 rfl (lv_at hl 1 rfl) ?_
  obtain ⟨v12, e12, h⟩ := bnd h
  refine cV (av := [.int 0, .int p1]) (rest := []) (st1 := [.int v12]) (k1 := 0) (k2 := 0) (ci := 4) (q0 := 0) hx hb hml hown htg hN hK (c_X9_kind l dC dI cy a0 m0 0 p1 v12 e12) (g_V gw1046 gw1048 gw32 gw63 gw1049) hdV_X9_kind rfl ⟨⟨Nat.le_of_ble_eq_true rfl, Nat.le_of_ble_eq_true rfl⟩, Nat.le_of_ble_eq_true rfl, Nat.le_of_ble_eq_true rfl⟩ hP hD hS hA ⟨rfl, rfl⟩ rfl [0, 1, 2, 3, 4, 5, 6, 7, 8, 9, 10, 11, 12, 13, 14] [] rfl rfl rfl (by decide) (by decide) hl.1 rfl (Nat.le_of_ble_eq_true rfl) rfl rfl rfl dX9_isEar_12 (fun H locs hP hD hS => ?_)
  have hP : va_P (dC, dI) vwCl (wMod a0 cy m0) H := hP
  have hD : va_D A (wMod a0 cy m0) := hD
  refine lv_iconst (v := 1) hx hb dX9_isEar_15 (by decide) ?_
  refine lv_icmp_ne (tgt := 44) hx hb dX9_isEar_16 (by decide) (fun c16 => ?_) (fun c16 => ?_)
  · replace h := if_f h c16
    refine lv_iconst (v := 0) hx hb dX9_isEar_44 (by decide) ?_
    obtain rfl := Option.some.inj h
    exact hE H locs 45 ls _ hP hD hS rfl (Or.inl rfl) dX9_isEar_45
  replace h := if_t h c16
  refine lv_aload_n hx hb dX9_isEar_19 rfl (lv_at hl 0 rfl) ?_
  refine lv_iconst (v := 0) hx hb dX9_isEar_20 (by decide) ?_
  refine lv_aload_n hx hb dX9_isEar_21 rfl (lv_at hl 0 rfl) ?_
  refine lv_iconst (v := 0) hx hb dX9_isEar_22 (by decide) ?_
  refine lv_iload_n hx hb dX9_isEar_23 rfl (lv_at hl 1 rfl) ?_
  obtain ⟨v24, e24, h⟩ := bnd h
  refine cV (av := [.int 0, .int p1]) (rest := [.int 0, .ref (a0 0)]) (st1 := [.int v24, .int 0, .ref (a0 0)]) (k1 := 0) (k2 := 0) (ci := 4) (q0 := 0) hx hb hml hown htg hN hK (c_X9_before l dC dI cy a0 m0 0 p1 v24 e24) (g_V gw1054 gw1056 gw34 gw63 gw1057) hdV_X9_before rfl ⟨⟨Nat.le_of_ble_eq_true rfl, Nat.le_of_ble_eq_true rfl⟩, Nat.le_of_ble_eq_true rfl, Nat.le_of_ble_eq_true rfl⟩ hP hD hS hA ⟨rfl, rfl⟩ rfl [0, 1, 2, 3, 4, 5, 6, 7, 8, 9, 10, 11, 12, 13, 14] [] rfl rfl rfl (by decide) (by decide) hl.1 rfl (Nat.le_of_ble_eq_true rfl) rfl rfl rfl dX9_isEar_24 (fun H locs hP hD hS => ?_)
  have hP : va_P (dC, dI) vwCl (wMod a0 cy m0) H := hP
  have hD : va_D A (wMod a0 cy m0) := hD
  refine lv_iconst (v := 0) hx hb dX9_isEar_27 (by decide) ?_
  refine lv_aload_n hx hb dX9_isEar_28 rfl (lv_at hl 0 rfl) ?_
  refine lv_iconst (v := 0) hx hb dX9_isEar_29 (by decide) ?_
  refine lv_iload_n hx hb dX9_isEar_30 rfl (lv_at hl 1 rfl) ?_
  obtain ⟨v31, e31, h⟩ := bnd h
  refine cV (av := [.int 0, .int p1]) (rest := [.int 0, .int v24, .int 0, .ref (a0 0)]) (st1 := [.int v31, .int 0, .int v24, .int 0, .ref (a0 0)]) (k1 := 0) (k2 := 0) (ci := 4) (q0 := 0) hx hb hml hown htg hN hK (c_X9_next l dC dI cy a0 m0 0 p1 v31 e31) (g_V gw955 gw957 gw15 gw63 gw958) hdV_X9_next rfl ⟨⟨Nat.le_of_ble_eq_true rfl, Nat.le_of_ble_eq_true rfl⟩, Nat.le_of_ble_eq_true rfl, Nat.le_of_ble_eq_true rfl⟩ hP hD hS hA ⟨rfl, rfl⟩ rfl [0, 1, 2, 3, 4, 5, 6, 7, 8, 9, 10, 11, 12, 13, 14] [] rfl rfl rfl (by decide) (by decide) hl.1 rfl (Nat.le_of_ble_eq_true rfl) rfl rfl rfl dX9_isEar_31 (fun H locs hP hD hS => ?_)
  have hP : va_P (dC, dI) vwCl (wMod a0 cy m0) H := hP
  have hD : va_D A (wMod a0 cy m0) := hD
  obtain ⟨v34, e34, h⟩ := bnd h
  refine cV (av := [.int 0, .int v24, .int 0, .int v31]) (rest := []) (st1 := [.int v34.1]) (k1 := 0) (k2 := 0) (ci := 4) (q0 := 0) hx hb hml hown htg hN hK (c_X9_areSeeing l dC dI cy a0 m0 0 v24 0 v31 v34 e34) (g_V gw1062 gw1064 gw36 gw63 gw1065) hdV_X9_areSeeing rfl ⟨⟨Nat.le_of_ble_eq_true rfl, Nat.le_of_ble_eq_true rfl⟩, Nat.le_of_ble_eq_true rfl, Nat.le_of_ble_eq_true rfl⟩ hP hD hS hA ⟨rfl, rfl⟩ rfl [0, 1, 2, 3, 4, 5, 6, 7, 8, 9, 10, 11, 12, 13, 14] [] rfl rfl rfl (by decide) (by decide) hl.1 rfl (Nat.le_of_ble_eq_true rfl) rfl rfl rfl dX9_isEar_34 (fun H locs hP hD hS => ?_)
  have hP : va_P (dC, dI) vwCl (wMod a0 cy v34.2) H := hP
  have hD : va_D A (wMod a0 cy v34.2) := hD
  refine lv_if_eq (tgt := 44) hx hb dX9_isEar_37 (by decide) (fun c37 => ?_) (fun c37 => ?_)
  · replace h := if_t h c37
    refine lv_iconst (v := 0) hx hb dX9_isEar_44 (by decide) ?_
    obtain rfl := Option.some.inj h
    exact hE H locs 45 ls _ hP hD hS rfl (Or.inl rfl) dX9_isEar_45
  replace h := if_f h c37
  refine lv_iconst (v := 1) hx hb dX9_isEar_40 (by decide) ?_
  refine lv_goto (tgt := 45) hx hb dX9_isEar_41 (by decide) ?_
  obtain rfl := Option.some.inj h
  exact hE H locs 45 ls _ hP hD hS rfl (Or.inr rfl) dX9_isEar_45
def G_X9_squareOf (m0 : Mod) (p1 : Int32) (p2 : Int32) : Option (Int32) :=
  (G_X9_x m0 0 p1).bind fun v3 =>
  (G_X9_x m0 0 p2).bind fun v9 =>
  (G_X9_y m0 0 p1).bind fun v17 =>
  (G_X9_y m0 0 p2).bind fun v23 =>
  some (((v3 - v9) * (v3 - v9)) + ((v17 - v23) * (v17 - v23)))
abbrev rm_X9_squareOf : Room := { frames := 1, cells := 0, slots := 0, locals := 22 }
theorem hdS_X9_squareOf : yX9_squareOf.cls ≠ "java/lang/invoke/MethodHandle" ∧ yX9_squareOf.cls ≠ "java/lang/invoke/VarHandle" ∧ (parseMethodDescriptor yX9_squareOf.desc).map (fun d => d.parameters.length) = some 2 := by decide +kernel
theorem hdV_X9_squareOf : yX9_squareOf.cls = RX9 ∧ yX9_squareOf.cls ≠ "java/lang/invoke/MethodHandle" ∧ yX9_squareOf.cls ≠ "java/lang/invoke/VarHandle" ∧ (parseMethodDescriptor yX9_squareOf.desc).map (fun d => d.parameters.length) = some 2 := ⟨rfl, hdS_X9_squareOf⟩
set_option maxHeartbeats 4000000 in
set_option maxRecDepth 100000 in
theorem c_X9_squareOf (l : Launch) (dC : Nat → ClassId) (dI : Nat → Nat → Nat) (cy : Nat → ClassId) (a0 : Nat → Nat) (m0 : Mod) (p1 : Int32) (p2 : Int32) (res : Int32) (h : G_X9_squareOf m0 p1 p2 = some res) : CT l (dC, dI) (TY cy) yX9_squareOf cX9_squareOf 5 (some .int) rm_X9_squareOf [.ref (a0 0), .int p1, .int p2] (wMod a0 cy m0) (wMod a0 cy m0) (some (.int res)) := by
  refine CT.mk_i (own := RX9) ⟨by decide, rfl⟩ (Nat.le_of_ble_eq_true rfl) ?_
  intro p e s mm args below meth cd A Q hx hb hml hown htg hN hK hA hP hD hS hE ls hl
  have hl : lv_has ls 5 [(0, .ref (a0 0)), (1, .int p1), (2, .int p2)] := hl
  replace h : _ = some res := h
  unfold G_X9_squareOf at h
  obtain ⟨H, hH⟩ : ∃ H, H = s.heap := ⟨_, rfl⟩
  obtain ⟨locs, hlocs⟩ : ∃ locs : List Loc, locs = [] := ⟨_, rfl⟩
  rw [← hlocs] at hS ⊢
  have hS : va_S A s.heap H locs := by rw [hH]; exact hS
  rw [← hH] at hP ⊢
  refine lv_aload_n hx hb dX9_squareOf_0 rfl (lv_at hl 0 rfl) ?_
  refine lv_iconst (v := 0) hx hb dX9_squareOf_1 (by decide) ?_
  refine lv_iload_n hx hb dX9_squareOf_2 rfl (lv_at hl 1 rfl) ?_
  obtain ⟨v3, e3, h⟩ := bnd h
  refine cV (av := [.int 0, .int p1]) (rest := []) (st1 := [.int v3]) (k1 := 0) (k2 := 0) (ci := 4) (q0 := 0) hx hb hml hown htg hN hK (c_X9_x l dC dI cy a0 m0 0 p1 v3 e3) (g_V gw947 gw949 gw13 gw63 gw950) hdV_X9_x rfl ⟨⟨Nat.le_of_ble_eq_true rfl, Nat.le_of_ble_eq_true rfl⟩, Nat.le_of_ble_eq_true rfl, Nat.le_of_ble_eq_true rfl⟩ hP hD hS hA ⟨rfl, rfl⟩ rfl [0, 1, 2, 3, 4, 5, 6, 7, 8, 9, 10, 11, 12, 13, 14] [] rfl rfl rfl (by decide) (by decide) hl.1 rfl (Nat.le_of_ble_eq_true rfl) rfl rfl rfl dX9_squareOf_3 (fun H locs hP hD hS => ?_)
  have hP : va_P (dC, dI) vwCl (wMod a0 cy m0) H := hP
  have hD : va_D A (wMod a0 cy m0) := hD
  refine lv_aload_n hx hb dX9_squareOf_6 rfl (lv_at hl 0 rfl) ?_
  refine lv_iconst (v := 0) hx hb dX9_squareOf_7 (by decide) ?_
  refine lv_iload_n hx hb dX9_squareOf_8 rfl (lv_at hl 2 rfl) ?_
  obtain ⟨v9, e9, h⟩ := bnd h
  refine cV (av := [.int 0, .int p2]) (rest := [.int v3]) (st1 := [.int v9, .int v3]) (k1 := 0) (k2 := 0) (ci := 4) (q0 := 0) hx hb hml hown htg hN hK (c_X9_x l dC dI cy a0 m0 0 p2 v9 e9) (g_V gw947 gw949 gw13 gw63 gw950) hdV_X9_x rfl ⟨⟨Nat.le_of_ble_eq_true rfl, Nat.le_of_ble_eq_true rfl⟩, Nat.le_of_ble_eq_true rfl, Nat.le_of_ble_eq_true rfl⟩ hP hD hS hA ⟨rfl, rfl⟩ rfl [0, 1, 2, 3, 4, 5, 6, 7, 8, 9, 10, 11, 12, 13, 14] [] rfl rfl rfl (by decide) (by decide) hl.1 rfl (Nat.le_of_ble_eq_true rfl) rfl rfl rfl dX9_squareOf_9 (fun H locs hP hD hS => ?_)
  have hP : va_P (dC, dI) vwCl (wMod a0 cy m0) H := hP
  have hD : va_D A (wMod a0 cy m0) := hD
  refine lv_isub hx hb dX9_squareOf_12 ?_
  refine lv_istore_n (lv' := [(3, .int (v3 - v9)), (0, .ref (a0 0)), (1, .int p1), (2, .int p2)]) hx hb dX9_squareOf_13 rfl hl (by decide) rfl (fun ls hl => ?_)
  refine lv_aload_n hx hb dX9_squareOf_14 rfl (lv_at hl 1 rfl) ?_
  refine lv_iconst (v := 0) hx hb dX9_squareOf_15 (by decide) ?_
  refine lv_iload_n hx hb dX9_squareOf_16 rfl (lv_at hl 2 rfl) ?_
  obtain ⟨v17, e17, h⟩ := bnd h
  refine cV (av := [.int 0, .int p1]) (rest := []) (st1 := [.int v17]) (k1 := 0) (k2 := 0) (ci := 4) (q0 := 0) hx hb hml hown htg hN hK (c_X9_y l dC dI cy a0 m0 0 p1 v17 e17) (g_V gw951 gw953 gw14 gw63 gw954) hdV_X9_y rfl ⟨⟨Nat.le_of_ble_eq_true rfl, Nat.le_of_ble_eq_true rfl⟩, Nat.le_of_ble_eq_true rfl, Nat.le_of_ble_eq_true rfl⟩ hP hD hS hA ⟨rfl, rfl⟩ rfl [0, 1, 2, 3, 4, 5, 6, 7, 8, 9, 10, 11, 12, 13, 14] [] rfl rfl rfl (by decide) (by decide) hl.1 rfl (Nat.le_of_ble_eq_true rfl) rfl rfl rfl dX9_squareOf_17 (fun H locs hP hD hS => ?_)
  have hP : va_P (dC, dI) vwCl (wMod a0 cy m0) H := hP
  have hD : va_D A (wMod a0 cy m0) := hD
  refine lv_aload_n hx hb dX9_squareOf_20 rfl (lv_at hl 1 rfl) ?_
  refine lv_iconst (v := 0) hx hb dX9_squareOf_21 (by decide) ?_
  refine lv_iload_n hx hb dX9_squareOf_22 rfl (lv_at hl 3 rfl) ?_
  obtain ⟨v23, e23, h⟩ := bnd h
  refine cV (av := [.int 0, .int p2]) (rest := [.int v17]) (st1 := [.int v23, .int v17]) (k1 := 0) (k2 := 0) (ci := 4) (q0 := 0) hx hb hml hown htg hN hK (c_X9_y l dC dI cy a0 m0 0 p2 v23 e23) (g_V gw951 gw953 gw14 gw63 gw954) hdV_X9_y rfl ⟨⟨Nat.le_of_ble_eq_true rfl, Nat.le_of_ble_eq_true rfl⟩, Nat.le_of_ble_eq_true rfl, Nat.le_of_ble_eq_true rfl⟩ hP hD hS hA ⟨rfl, rfl⟩ rfl [0, 1, 2, 3, 4, 5, 6, 7, 8, 9, 10, 11, 12, 13, 14] [] rfl rfl rfl (by decide) (by decide) hl.1 rfl (Nat.le_of_ble_eq_true rfl) rfl rfl rfl dX9_squareOf_23 (fun H locs hP hD hS => ?_)
  have hP : va_P (dC, dI) vwCl (wMod a0 cy m0) H := hP
  have hD : va_D A (wMod a0 cy m0) := hD
  refine lv_isub hx hb dX9_squareOf_26 ?_
  refine lv_istore (lv' := [(4, .int (v17 - v23)), (3, .int (v3 - v9)), (0, .ref (a0 0)), (1, .int p1), (2, .int p2)]) hx hb dX9_squareOf_27 hl (by decide) rfl (fun ls hl => ?_)
  refine lv_iload_n hx hb dX9_squareOf_29 rfl (lv_at hl 1 rfl) ?_
  refine lv_iload_n hx hb dX9_squareOf_30 rfl (lv_at hl 1 rfl) ?_
  refine lv_imul hx hb dX9_squareOf_31 ?_
  refine lv_iload hx hb dX9_squareOf_32 (lv_at hl 0 rfl) ?_
  refine lv_iload hx hb dX9_squareOf_34 (lv_at hl 0 rfl) ?_
  refine lv_imul hx hb dX9_squareOf_36 ?_
  refine lv_iadd hx hb dX9_squareOf_37 ?_
  obtain rfl := Option.some.inj h
  exact hE H locs 38 ls _ hP hD hS rfl dX9_squareOf_38
def G_X9_hull_L103 (r87 : Int32 → Int32 → Int32 → Int32 → Option (Int32)) (m0 : Mod) : Nat → Int32 → Int32 → Int32 → Int32 → Int32 → Option (Int32)
  | 0, _, _, _, _, _ => none
  | n103 + 1, l6_103, l5_103, l3_103, l2_103, l1_103 =>
    (G_X9_many m0 0).bind fun v107 =>
    if v107 ≤ l6_103 then
      (G_X9_x m0 0 l3_103).bind fun v209 =>
      (G_X9_y m0 0 l5_103).bind fun v216 =>
      (G_X9_x m0 0 l5_103).bind fun v224 =>
      (G_X9_y m0 0 l3_103).bind fun v230 =>
      ((if l5_103 = l1_103 then
          some 0
        else
          some 1) : Option (Int32)).bind fun b242 =>
      r87 b242 l5_103 (l2_103 + ((v209 * v216) - (v224 * v230))) l1_103
    else
      (G_X9_x m0 0 l3_103).bind fun v116 =>
      (G_X9_y m0 0 l3_103).bind fun v122 =>
      (G_X9_x m0 0 l5_103).bind fun v129 =>
      (G_X9_y m0 0 l5_103).bind fun v136 =>
      (G_X9_x m0 0 l6_103).bind fun v143 =>
      (G_X9_y m0 0 l6_103).bind fun v150 =>
      (G_X9_turnOf v116 v122 v129 v136 v143 v150).bind fun v153 =>
      (G_X9_squareOf m0 l3_103 l6_103).bind fun v162 =>
      (G_X9_squareOf m0 l3_103 l5_103).bind fun v169 =>
      ((if v153 < 0 then
          some l6_103
        else
          if v153 = 0 then
            if v162 - v169 ≤ 0 then
              some l5_103
            else
              some l6_103
          else
            some l5_103) : Option (Int32)).bind fun b177 =>
      (G_X9_hull_L103 r87 m0 n103) (l6_103 + 1) b177 l3_103 l2_103 l1_103
def G_X9_hull_L87  (m0 : Mod) : Nat → Int32 → Int32 → Int32 → Int32 → Option (Int32)
  | 0, _, _, _, _ => none
  | n87 + 1, l4_87, l3_87, l2_87, l1_87 =>
    if l4_87 = 0 then
      (G_X9_size l2_87).bind fun v256 =>
      some v256
    else
      (G_X9_next m0 0 l3_87).bind fun v95 =>
      G_X9_hull_L103 (G_X9_hull_L87 m0 n87) m0 FU 0 v95 l3_87 l2_87 l1_87
def G_X9_hull_L4  (m0 : Mod) : Nat → Int32 → Int32 → Option (Int32)
  | 0, _, _ => none
  | n4 + 1, l2_4, l1_4 =>
    (G_X9_many m0 0).bind fun v7 =>
    if v7 ≤ l2_4 then
      G_X9_hull_L87 m0 FU 1 l1_4 0 l1_4
    else
      (G_X9_y m0 0 l2_4).bind fun v16 =>
      (G_X9_y m0 0 l1_4).bind fun v22 =>
      ((if v16 < v22 then
          some 1
        else
          (G_X9_y m0 0 l2_4).bind fun v31 =>
          (G_X9_y m0 0 l1_4).bind fun v37 =>
          if v31 = v37 then
            (G_X9_x m0 0 l2_4).bind fun v46 =>
            (G_X9_x m0 0 l1_4).bind fun v52 =>
            if v52 ≤ v46 then
              some 0
            else
              some 1
          else
            some 0) : Option (Int32)).bind fun b25 =>
      ((if b25 = 0 then
          some l1_4
        else
          some l2_4) : Option (Int32)).bind fun b65 =>
      (G_X9_hull_L4 m0 n4) (l2_4 + 1) b65
def G_X9_hull (m0 : Mod) : Option (Int32) :=
  G_X9_hull_L4 m0 FU 1 0
abbrev rm_X9_hull : Room := { frames := 2, cells := 0, slots := 0, locals := 46 }
theorem hdS_X9_hull : yX9_hull.cls ≠ "java/lang/invoke/MethodHandle" ∧ yX9_hull.cls ≠ "java/lang/invoke/VarHandle" ∧ (parseMethodDescriptor yX9_hull.desc).map (fun d => d.parameters.length) = some 0 := by decide +kernel
theorem hdV_X9_hull : yX9_hull.cls = RX9 ∧ yX9_hull.cls ≠ "java/lang/invoke/MethodHandle" ∧ yX9_hull.cls ≠ "java/lang/invoke/VarHandle" ∧ (parseMethodDescriptor yX9_hull.desc).map (fun d => d.parameters.length) = some 0 := ⟨rfl, hdS_X9_hull⟩
set_option maxHeartbeats 4000000 in
set_option maxRecDepth 100000 in
theorem c_X9_hull (l : Launch) (dC : Nat → ClassId) (dI : Nat → Nat → Nat) (cy : Nat → ClassId) (a0 : Nat → Nat) (m0 : Mod) (res : Int32) (h : G_X9_hull m0 = some res) : CT l (dC, dI) (TY cy) yX9_hull cX9_hull 9 (some .int) rm_X9_hull [.ref (a0 0)] (wMod a0 cy m0) (wMod a0 cy m0) (some (.int res)) := by
  refine CT.mk_i (own := RX9) ⟨by decide, rfl⟩ (Nat.le_of_ble_eq_true rfl) ?_
  intro p e s mm args below meth cd A Q hx hb hml hown htg hN hK hA hP hD hS hE ls hl
  have hl : lv_has ls 9 [(0, .ref (a0 0))] := hl
  replace h : _ = some res := h
  unfold G_X9_hull at h
  obtain ⟨H, hH⟩ : ∃ H, H = s.heap := ⟨_, rfl⟩
  obtain ⟨locs, hlocs⟩ : ∃ locs : List Loc, locs = [] := ⟨_, rfl⟩
  rw [← hlocs] at hS ⊢
  have hS : va_S A s.heap H locs := by rw [hH]; exact hS
  rw [← hH] at hP ⊢
  refine lv_iconst (v := 0) hx hb dX9_hull_0 (by decide) ?_
  refine lv_istore_n (lv' := [(1, .int 0), (0, .ref (a0 0))]) hx hb dX9_hull_1 rfl hl (by decide) rfl (fun ls hl => ?_)
  refine lv_iconst (v := 1) hx hb dX9_hull_2 (by decide) ?_
  refine lv_istore_n (lv' := [(2, .int 1), (1, .int 0), (0, .ref (a0 0))]) hx hb dX9_hull_3 rfl hl (by decide) rfl (fun ls hl => ?_)
  have hL4 : ∀ (n4 : Nat) (l2_4 : Int32) (l1_4 : Int32) (H : Heap) (locs : List Loc) (ls : Array Slot), G_X9_hull_L4 m0 n4 l2_4 l1_4 = some res → va_P (dC, dI) vwCl (wMod a0 cy m0) H → va_D A (wMod a0 cy m0) → va_S A s.heap H locs → lv_has ls 9 [(2, .int l2_4), (1, .int l1_4), (0, .ref (a0 0))] → W p l e rm_X9_hull s mm args below meth cd H locs 0 0 Q (F0 mm 4 ls []) := by
    intro n4
    induction n4 with
    | zero => intro l2_4 l1_4 H locs ls h; exact absurd h (by simp [G_X9_hull_L4])
    | succ n4 ih4 =>
      intro l2_4 l1_4 H locs ls h hP hD hS hl
      rw [G_X9_hull_L4] at h
      refine lv_iload_n hx hb dX9_hull_4 rfl (lv_at hl 0 rfl) ?_
      refine lv_aload_n hx hb dX9_hull_5 rfl (lv_at hl 2 rfl) ?_
      refine lv_iconst (v := 0) hx hb dX9_hull_6 (by decide) ?_
      obtain ⟨v7, e7, h⟩ := bnd h
      refine cV (av := [.int 0]) (rest := [.int l2_4]) (st1 := [.int v7, .int l2_4]) (k1 := 0) (k2 := 0) (ci := 4) (q0 := 0) hx hb hml hown htg hN hK (c_X9_many l dC dI cy a0 m0 0 v7 e7) (g_V gw935 gw937 gw10 gw63 gw938) hdV_X9_many rfl ⟨⟨Nat.le_of_ble_eq_true rfl, Nat.le_of_ble_eq_true rfl⟩, Nat.le_of_ble_eq_true rfl, Nat.le_of_ble_eq_true rfl⟩ hP hD hS hA ⟨rfl, rfl⟩ rfl [0, 1, 2, 3, 4, 5, 6, 7, 8, 9, 10, 11, 12, 13, 14] [] rfl rfl rfl (by decide) (by decide) hl.1 rfl (Nat.le_of_ble_eq_true rfl) rfl rfl rfl dX9_hull_7 (fun H locs hP hD hS => ?_)
      have hP : va_P (dC, dI) vwCl (wMod a0 cy m0) H := hP
      have hD : va_D A (wMod a0 cy m0) := hD
      refine lv_icmp_ge (tgt := 80) hx hb dX9_hull_10 (by decide) (fun c10 => ?_) (fun c10 => ?_)
      · replace h := if_t h c10
        refine lv_iconst (v := 0) hx hb dX9_hull_80 (by decide) ?_
        refine lv_istore_n (lv' := [(2, .int 0), (1, .int l1_4), (0, .ref (a0 0))]) hx hb dX9_hull_81 rfl hl (by decide) rfl (fun ls hl => ?_)
        refine lv_iload_n hx hb dX9_hull_82 rfl (lv_at hl 1 rfl) ?_
        refine lv_istore_n (lv' := [(3, .int l1_4), (2, .int 0), (1, .int l1_4), (0, .ref (a0 0))]) hx hb dX9_hull_83 rfl hl (by decide) rfl (fun ls hl => ?_)
        refine lv_iconst (v := 1) hx hb dX9_hull_84 (by decide) ?_
        refine lv_istore (lv' := [(4, .int 1), (3, .int l1_4), (2, .int 0), (1, .int l1_4), (0, .ref (a0 0))]) hx hb dX9_hull_85 hl (by decide) rfl (fun ls hl => ?_)
        have hL87 : ∀ (n87 : Nat) (l4_87 : Int32) (l3_87 : Int32) (l2_87 : Int32) (l1_87 : Int32) (H : Heap) (locs : List Loc) (ls : Array Slot), G_X9_hull_L87 m0 n87 l4_87 l3_87 l2_87 l1_87 = some res → va_P (dC, dI) vwCl (wMod a0 cy m0) H → va_D A (wMod a0 cy m0) → va_S A s.heap H locs → lv_has ls 9 [(4, .int l4_87), (3, .int l3_87), (2, .int l2_87), (1, .int l1_87), (0, .ref (a0 0))] → W p l e rm_X9_hull s mm args below meth cd H locs 0 0 Q (F0 mm 87 ls []) := by
          intro n87
          induction n87 with
          | zero => intro l4_87 l3_87 l2_87 l1_87 H locs ls h; exact absurd h (by simp [G_X9_hull_L87])
          | succ n87 ih87 =>
            intro l4_87 l3_87 l2_87 l1_87 H locs ls h hP hD hS hl
            rw [G_X9_hull_L87] at h
            refine lv_iload hx hb dX9_hull_87 (lv_at hl 0 rfl) ?_
            refine lv_if_eq (tgt := 255) hx hb dX9_hull_89 (by decide) (fun c89 => ?_) (fun c89 => ?_)
            · replace h := if_t h c89
              refine lv_iload_n hx hb dX9_hull_255 rfl (lv_at hl 2 rfl) ?_
              obtain ⟨v256, e256, h⟩ := bnd h
              refine cS (av := [.int l2_87]) (rest := []) (st1 := [.int v256]) (k1 := 0) (k2 := 0) hx hb hml hown htg hN hK (c_X9_size l dC dI cy   l2_87 v256 e256) (g_S gw1012 gw1013 gw63 gw1014) hdS_X9_size rfl ⟨⟨Nat.le_of_ble_eq_true rfl, Nat.le_of_ble_eq_true rfl⟩, Nat.le_of_ble_eq_true rfl, Nat.le_of_ble_eq_true rfl⟩ hP hD hS hA [] [0, 1, 2, 3, 4, 5, 6, 7, 8, 9, 10, 11, 12, 13, 14] rfl rfl rfl (by decide) (by decide) hl.1 rfl (Nat.le_of_ble_eq_true rfl) rfl rfl rfl dX9_hull_256 (fun H locs hP hD hS => ?_)
              obtain ⟨hP, hD⟩ := x_perm (ws' := wMod a0 cy m0) hP hD [0, 1, 2, 3, 4, 5, 6, 7, 8, 9, 10, 11, 12, 13, 14] (by decide) rfl rfl
              obtain rfl := Option.some.inj h
              exact hE H locs 259 ls _ hP hD hS rfl dX9_hull_259
            replace h := if_f h c89
            refine lv_aload_n hx hb dX9_hull_92 rfl (lv_at hl 4 rfl) ?_
            refine lv_iconst (v := 0) hx hb dX9_hull_93 (by decide) ?_
            refine lv_iload_n hx hb dX9_hull_94 rfl (lv_at hl 1 rfl) ?_
            obtain ⟨v95, e95, h⟩ := bnd h
            refine cV (av := [.int 0, .int l3_87]) (rest := []) (st1 := [.int v95]) (k1 := 0) (k2 := 0) (ci := 4) (q0 := 0) hx hb hml hown htg hN hK (c_X9_next l dC dI cy a0 m0 0 l3_87 v95 e95) (g_V gw955 gw957 gw15 gw63 gw958) hdV_X9_next rfl ⟨⟨Nat.le_of_ble_eq_true rfl, Nat.le_of_ble_eq_true rfl⟩, Nat.le_of_ble_eq_true rfl, Nat.le_of_ble_eq_true rfl⟩ hP hD hS hA ⟨rfl, rfl⟩ rfl [0, 1, 2, 3, 4, 5, 6, 7, 8, 9, 10, 11, 12, 13, 14] [] rfl rfl rfl (by decide) (by decide) hl.1 rfl (Nat.le_of_ble_eq_true rfl) rfl rfl rfl dX9_hull_95 (fun H locs hP hD hS => ?_)
            have hP : va_P (dC, dI) vwCl (wMod a0 cy m0) H := hP
            have hD : va_D A (wMod a0 cy m0) := hD
            refine lv_istore (lv' := [(5, .int v95), (4, .int l4_87), (3, .int l3_87), (2, .int l2_87), (1, .int l1_87), (0, .ref (a0 0))]) hx hb dX9_hull_98 hl (by decide) rfl (fun ls hl => ?_)
            refine lv_iconst (v := 0) hx hb dX9_hull_100 (by decide) ?_
            refine lv_istore (lv' := [(6, .int 0), (5, .int v95), (4, .int l4_87), (3, .int l3_87), (2, .int l2_87), (1, .int l1_87), (0, .ref (a0 0))]) hx hb dX9_hull_101 hl (by decide) rfl (fun ls hl => ?_)
            have hL103 : ∀ (n103 : Nat) (l6_103 : Int32) (l5_103 : Int32) (l3_103 : Int32) (l2_103 : Int32) (l1_103 : Int32) (H : Heap) (locs : List Loc) (ls : Array Slot), G_X9_hull_L103 (G_X9_hull_L87 m0 n87) m0 n103 l6_103 l5_103 l3_103 l2_103 l1_103 = some res → va_P (dC, dI) vwCl (wMod a0 cy m0) H → va_D A (wMod a0 cy m0) → va_S A s.heap H locs → lv_has ls 9 [(6, .int l6_103), (5, .int l5_103), (3, .int l3_103), (2, .int l2_103), (1, .int l1_103), (0, .ref (a0 0))] → W p l e rm_X9_hull s mm args below meth cd H locs 0 0 Q (F0 mm 103 ls []) := by
              intro n103
              induction n103 with
              | zero => intro l6_103 l5_103 l3_103 l2_103 l1_103 H locs ls h; exact absurd h (by simp [G_X9_hull_L103])
              | succ n103 ih103 =>
                intro l6_103 l5_103 l3_103 l2_103 l1_103 H locs ls h hP hD hS hl
                rw [G_X9_hull_L103] at h
                refine lv_iload hx hb dX9_hull_103 (lv_at hl 0 rfl) ?_
                refine lv_aload_n hx hb dX9_hull_105 rfl (lv_at hl 5 rfl) ?_
                refine lv_iconst (v := 0) hx hb dX9_hull_106 (by decide) ?_
                obtain ⟨v107, e107, h⟩ := bnd h
                refine cV (av := [.int 0]) (rest := [.int l6_103]) (st1 := [.int v107, .int l6_103]) (k1 := 0) (k2 := 0) (ci := 4) (q0 := 0) hx hb hml hown htg hN hK (c_X9_many l dC dI cy a0 m0 0 v107 e107) (g_V gw935 gw937 gw10 gw63 gw938) hdV_X9_many rfl ⟨⟨Nat.le_of_ble_eq_true rfl, Nat.le_of_ble_eq_true rfl⟩, Nat.le_of_ble_eq_true rfl, Nat.le_of_ble_eq_true rfl⟩ hP hD hS hA ⟨rfl, rfl⟩ rfl [0, 1, 2, 3, 4, 5, 6, 7, 8, 9, 10, 11, 12, 13, 14] [] rfl rfl rfl (by decide) (by decide) hl.1 rfl (Nat.le_of_ble_eq_true rfl) rfl rfl rfl dX9_hull_107 (fun H locs hP hD hS => ?_)
                have hP : va_P (dC, dI) vwCl (wMod a0 cy m0) H := hP
                have hD : va_D A (wMod a0 cy m0) := hD
                refine lv_icmp_ge (tgt := 205) hx hb dX9_hull_110 (by decide) (fun c110 => ?_) (fun c110 => ?_)
                · replace h := if_t h c110
                  refine lv_iload_n hx hb dX9_hull_205 rfl (lv_at hl 3 rfl) ?_
                  refine lv_aload_n hx hb dX9_hull_206 rfl (lv_at hl 5 rfl) ?_
                  refine lv_iconst (v := 0) hx hb dX9_hull_207 (by decide) ?_
                  refine lv_iload_n hx hb dX9_hull_208 rfl (lv_at hl 2 rfl) ?_
                  obtain ⟨v209, e209, h⟩ := bnd h
                  refine cV (av := [.int 0, .int l3_103]) (rest := [.int l2_103]) (st1 := [.int v209, .int l2_103]) (k1 := 0) (k2 := 0) (ci := 4) (q0 := 0) hx hb hml hown htg hN hK (c_X9_x l dC dI cy a0 m0 0 l3_103 v209 e209) (g_V gw947 gw949 gw13 gw63 gw950) hdV_X9_x rfl ⟨⟨Nat.le_of_ble_eq_true rfl, Nat.le_of_ble_eq_true rfl⟩, Nat.le_of_ble_eq_true rfl, Nat.le_of_ble_eq_true rfl⟩ hP hD hS hA ⟨rfl, rfl⟩ rfl [0, 1, 2, 3, 4, 5, 6, 7, 8, 9, 10, 11, 12, 13, 14] [] rfl rfl rfl (by decide) (by decide) hl.1 rfl (Nat.le_of_ble_eq_true rfl) rfl rfl rfl dX9_hull_209 (fun H locs hP hD hS => ?_)
                  have hP : va_P (dC, dI) vwCl (wMod a0 cy m0) H := hP
                  have hD : va_D A (wMod a0 cy m0) := hD
                  refine lv_aload_n hx hb dX9_hull_212 rfl (lv_at hl 5 rfl) ?_
                  refine lv_iconst (v := 0) hx hb dX9_hull_213 (by decide) ?_
                  refine lv_iload hx hb dX9_hull_214 (lv_at hl 1 rfl) ?_
                  obtain ⟨v216, e216, h⟩ := bnd h
                  refine cV (av := [.int 0, .int l5_103]) (rest := [.int v209, .int l2_103]) (st1 := [.int v216, .int v209, .int l2_103]) (k1 := 0) (k2 := 0) (ci := 4) (q0 := 0) hx hb hml hown htg hN hK (c_X9_y l dC dI cy a0 m0 0 l5_103 v216 e216) (g_V gw951 gw953 gw14 gw63 gw954) hdV_X9_y rfl ⟨⟨Nat.le_of_ble_eq_true rfl, Nat.le_of_ble_eq_true rfl⟩, Nat.le_of_ble_eq_true rfl, Nat.le_of_ble_eq_true rfl⟩ hP hD hS hA ⟨rfl, rfl⟩ rfl [0, 1, 2, 3, 4, 5, 6, 7, 8, 9, 10, 11, 12, 13, 14] [] rfl rfl rfl (by decide) (by decide) hl.1 rfl (Nat.le_of_ble_eq_true rfl) rfl rfl rfl dX9_hull_216 (fun H locs hP hD hS => ?_)
                  have hP : va_P (dC, dI) vwCl (wMod a0 cy m0) H := hP
                  have hD : va_D A (wMod a0 cy m0) := hD
                  refine lv_imul hx hb dX9_hull_219 ?_
                  refine lv_aload_n hx hb dX9_hull_220 rfl (lv_at hl 5 rfl) ?_
                  refine lv_iconst (v := 0) hx hb dX9_hull_221 (by decide) ?_
                  refine lv_iload hx hb dX9_hull_222 (lv_at hl 1 rfl) ?_
                  obtain ⟨v224, e224, h⟩ := bnd h
                  refine cV (av := [.int 0, .int l5_103]) (rest := [.int (v209 * v216), .int l2_103]) (st1 := [.int v224, .int (v209 * v216), .int l2_103]) (k1 := 0) (k2 := 0) (ci := 4) (q0 := 0) hx hb hml hown htg hN hK (c_X9_x l dC dI cy a0 m0 0 l5_103 v224 e224) (g_V gw947 gw949 gw13 gw63 gw950) hdV_X9_x rfl ⟨⟨Nat.le_of_ble_eq_true rfl, Nat.le_of_ble_eq_true rfl⟩, Nat.le_of_ble_eq_true rfl, Nat.le_of_ble_eq_true rfl⟩ hP hD hS hA ⟨rfl, rfl⟩ rfl [0, 1, 2, 3, 4, 5, 6, 7, 8, 9, 10, 11, 12, 13, 14] [] rfl rfl rfl (by decide) (by decide) hl.1 rfl (Nat.le_of_ble_eq_true rfl) rfl rfl rfl dX9_hull_224 (fun H locs hP hD hS => ?_)
                  have hP : va_P (dC, dI) vwCl (wMod a0 cy m0) H := hP
                  have hD : va_D A (wMod a0 cy m0) := hD
                  refine lv_aload_n hx hb dX9_hull_227 rfl (lv_at hl 5 rfl) ?_
                  refine lv_iconst (v := 0) hx hb dX9_hull_228 (by decide) ?_
                  refine lv_iload_n hx hb dX9_hull_229 rfl (lv_at hl 2 rfl) ?_
                  obtain ⟨v230, e230, h⟩ := bnd h
                  refine cV (av := [.int 0, .int l3_103]) (rest := [.int v224, .int (v209 * v216), .int l2_103]) (st1 := [.int v230, .int v224, .int (v209 * v216), .int l2_103]) (k1 := 0) (k2 := 0) (ci := 4) (q0 := 0) hx hb hml hown htg hN hK (c_X9_y l dC dI cy a0 m0 0 l3_103 v230 e230) (g_V gw951 gw953 gw14 gw63 gw954) hdV_X9_y rfl ⟨⟨Nat.le_of_ble_eq_true rfl, Nat.le_of_ble_eq_true rfl⟩, Nat.le_of_ble_eq_true rfl, Nat.le_of_ble_eq_true rfl⟩ hP hD hS hA ⟨rfl, rfl⟩ rfl [0, 1, 2, 3, 4, 5, 6, 7, 8, 9, 10, 11, 12, 13, 14] [] rfl rfl rfl (by decide) (by decide) hl.1 rfl (Nat.le_of_ble_eq_true rfl) rfl rfl rfl dX9_hull_230 (fun H locs hP hD hS => ?_)
                  have hP : va_P (dC, dI) vwCl (wMod a0 cy m0) H := hP
                  have hD : va_D A (wMod a0 cy m0) := hD
                  refine lv_imul hx hb dX9_hull_233 ?_
                  refine lv_isub hx hb dX9_hull_234 ?_
                  refine lv_iadd hx hb dX9_hull_235 ?_
                  refine lv_istore_n (lv' := [(2, .int (l2_103 + ((v209 * v216) - (v224 * v230)))), (6, .int l6_103), (5, .int l5_103), (3, .int l3_103), (1, .int l1_103), (0, .ref (a0 0))]) hx hb dX9_hull_236 rfl hl (by decide) rfl (fun ls hl => ?_)
                  refine lv_iload hx hb dX9_hull_237 (lv_at hl 2 rfl) ?_
                  refine lv_istore_n (lv' := [(3, .int l5_103), (2, .int (l2_103 + ((v209 * v216) - (v224 * v230)))), (6, .int l6_103), (5, .int l5_103), (1, .int l1_103), (0, .ref (a0 0))]) hx hb dX9_hull_239 rfl hl (by decide) rfl (fun ls hl => ?_)
                  refine lv_iload_n hx hb dX9_hull_240 rfl (lv_at hl 0 rfl) ?_
                  refine lv_iload_n hx hb dX9_hull_241 rfl (lv_at hl 4 rfl) ?_
                  obtain ⟨b242, e242, h⟩ := bnd h
                  have hr250 : ∀ (H : Heap) (locs : List Loc) (ls : Array Slot), va_P (dC, dI) vwCl (wMod a0 cy m0) H → va_D A (wMod a0 cy m0) → va_S A s.heap H locs → lv_has ls 9 [(3, .int l5_103), (2, .int (l2_103 + ((v209 * v216) - (v224 * v230)))), (6, .int l6_103), (5, .int l5_103), (1, .int l1_103), (0, .ref (a0 0))] → W p l e rm_X9_hull s mm args below meth cd H locs 0 0 Q (F0 mm 250 ls [.int b242]) := by
                    intro H locs ls hP hD hS hl
                    refine lv_istore (lv' := [(4, .int b242), (3, .int l5_103), (2, .int (l2_103 + ((v209 * v216) - (v224 * v230)))), (6, .int l6_103), (5, .int l5_103), (1, .int l1_103), (0, .ref (a0 0))]) hx hb dX9_hull_250 hl (by decide) rfl (fun ls hl => ?_)
                    refine lv_goto (tgt := 87) hx hb dX9_hull_252 (by decide) ?_
                    exact ih87 b242 l5_103 (l2_103 + ((v209 * v216) - (v224 * v230))) l1_103 H locs ls h hP hD hS (lv_sub hl [0, 1, 2, 5, 6] rfl)
                  have h := e242
                  clear e242
                  refine lv_icmp_eq (tgt := 249) hx hb dX9_hull_242 (by decide) (fun c242 => ?_) (fun c242 => ?_)
                  · replace h := if_t h c242
                    refine lv_iconst (v := 0) hx hb dX9_hull_249 (by decide) ?_
                    obtain rfl := Option.some.inj h
                    exact hr250 H locs ls hP hD hS hl
                  replace h := if_f h c242
                  refine lv_iconst (v := 1) hx hb dX9_hull_245 (by decide) ?_
                  refine lv_goto (tgt := 250) hx hb dX9_hull_246 (by decide) ?_
                  obtain rfl := Option.some.inj h
                  exact hr250 H locs ls hP hD hS hl
                replace h := if_f h c110
                refine lv_aload_n hx hb dX9_hull_113 rfl (lv_at hl 5 rfl) ?_
                refine lv_iconst (v := 0) hx hb dX9_hull_114 (by decide) ?_
                refine lv_iload_n hx hb dX9_hull_115 rfl (lv_at hl 2 rfl) ?_
                obtain ⟨v116, e116, h⟩ := bnd h
                refine cV (av := [.int 0, .int l3_103]) (rest := []) (st1 := [.int v116]) (k1 := 0) (k2 := 0) (ci := 4) (q0 := 0) hx hb hml hown htg hN hK (c_X9_x l dC dI cy a0 m0 0 l3_103 v116 e116) (g_V gw947 gw949 gw13 gw63 gw950) hdV_X9_x rfl ⟨⟨Nat.le_of_ble_eq_true rfl, Nat.le_of_ble_eq_true rfl⟩, Nat.le_of_ble_eq_true rfl, Nat.le_of_ble_eq_true rfl⟩ hP hD hS hA ⟨rfl, rfl⟩ rfl [0, 1, 2, 3, 4, 5, 6, 7, 8, 9, 10, 11, 12, 13, 14] [] rfl rfl rfl (by decide) (by decide) hl.1 rfl (Nat.le_of_ble_eq_true rfl) rfl rfl rfl dX9_hull_116 (fun H locs hP hD hS => ?_)
                have hP : va_P (dC, dI) vwCl (wMod a0 cy m0) H := hP
                have hD : va_D A (wMod a0 cy m0) := hD
                refine lv_aload_n hx hb dX9_hull_119 rfl (lv_at hl 5 rfl) ?_
                refine lv_iconst (v := 0) hx hb dX9_hull_120 (by decide) ?_
                refine lv_iload_n hx hb dX9_hull_121 rfl (lv_at hl 2 rfl) ?_
                obtain ⟨v122, e122, h⟩ := bnd h
                refine cV (av := [.int 0, .int l3_103]) (rest := [.int v116]) (st1 := [.int v122, .int v116]) (k1 := 0) (k2 := 0) (ci := 4) (q0 := 0) hx hb hml hown htg hN hK (c_X9_y l dC dI cy a0 m0 0 l3_103 v122 e122) (g_V gw951 gw953 gw14 gw63 gw954) hdV_X9_y rfl ⟨⟨Nat.le_of_ble_eq_true rfl, Nat.le_of_ble_eq_true rfl⟩, Nat.le_of_ble_eq_true rfl, Nat.le_of_ble_eq_true rfl⟩ hP hD hS hA ⟨rfl, rfl⟩ rfl [0, 1, 2, 3, 4, 5, 6, 7, 8, 9, 10, 11, 12, 13, 14] [] rfl rfl rfl (by decide) (by decide) hl.1 rfl (Nat.le_of_ble_eq_true rfl) rfl rfl rfl dX9_hull_122 (fun H locs hP hD hS => ?_)
                have hP : va_P (dC, dI) vwCl (wMod a0 cy m0) H := hP
                have hD : va_D A (wMod a0 cy m0) := hD
                refine lv_aload_n hx hb dX9_hull_125 rfl (lv_at hl 5 rfl) ?_
                refine lv_iconst (v := 0) hx hb dX9_hull_126 (by decide) ?_
                refine lv_iload hx hb dX9_hull_127 (lv_at hl 1 rfl) ?_
                obtain ⟨v129, e129, h⟩ := bnd h
                refine cV (av := [.int 0, .int l5_103]) (rest := [.int v122, .int v116]) (st1 := [.int v129, .int v122, .int v116]) (k1 := 0) (k2 := 0) (ci := 4) (q0 := 0) hx hb hml hown htg hN hK (c_X9_x l dC dI cy a0 m0 0 l5_103 v129 e129) (g_V gw947 gw949 gw13 gw63 gw950) hdV_X9_x rfl ⟨⟨Nat.le_of_ble_eq_true rfl, Nat.le_of_ble_eq_true rfl⟩, Nat.le_of_ble_eq_true rfl, Nat.le_of_ble_eq_true rfl⟩ hP hD hS hA ⟨rfl, rfl⟩ rfl [0, 1, 2, 3, 4, 5, 6, 7, 8, 9, 10, 11, 12, 13, 14] [] rfl rfl rfl (by decide) (by decide) hl.1 rfl (Nat.le_of_ble_eq_true rfl) rfl rfl rfl dX9_hull_129 (fun H locs hP hD hS => ?_)
                have hP : va_P (dC, dI) vwCl (wMod a0 cy m0) H := hP
                have hD : va_D A (wMod a0 cy m0) := hD
                refine lv_aload_n hx hb dX9_hull_132 rfl (lv_at hl 5 rfl) ?_
                refine lv_iconst (v := 0) hx hb dX9_hull_133 (by decide) ?_
                refine lv_iload hx hb dX9_hull_134 (lv_at hl 1 rfl) ?_
                obtain ⟨v136, e136, h⟩ := bnd h
                refine cV (av := [.int 0, .int l5_103]) (rest := [.int v129, .int v122, .int v116]) (st1 := [.int v136, .int v129, .int v122, .int v116]) (k1 := 0) (k2 := 0) (ci := 4) (q0 := 0) hx hb hml hown htg hN hK (c_X9_y l dC dI cy a0 m0 0 l5_103 v136 e136) (g_V gw951 gw953 gw14 gw63 gw954) hdV_X9_y rfl ⟨⟨Nat.le_of_ble_eq_true rfl, Nat.le_of_ble_eq_true rfl⟩, Nat.le_of_ble_eq_true rfl, Nat.le_of_ble_eq_true rfl⟩ hP hD hS hA ⟨rfl, rfl⟩ rfl [0, 1, 2, 3, 4, 5, 6, 7, 8, 9, 10, 11, 12, 13, 14] [] rfl rfl rfl (by decide) (by decide) hl.1 rfl (Nat.le_of_ble_eq_true rfl) rfl rfl rfl dX9_hull_136 (fun H locs hP hD hS => ?_)
                have hP : va_P (dC, dI) vwCl (wMod a0 cy m0) H := hP
                have hD : va_D A (wMod a0 cy m0) := hD
                refine lv_aload_n hx hb dX9_hull_139 rfl (lv_at hl 5 rfl) ?_
                refine lv_iconst (v := 0) hx hb dX9_hull_140 (by decide) ?_
                refine lv_iload hx hb dX9_hull_141 (lv_at hl 0 rfl) ?_
                obtain ⟨v143, e143, h⟩ := bnd h
                refine cV (av := [.int 0, .int l6_103]) (rest := [.int v136, .int v129, .int v122, .int v116]) (st1 := [.int v143, .int v136, .int v129, .int v122, .int v116]) (k1 := 0) (k2 := 0) (ci := 4) (q0 := 0) hx hb hml hown htg hN hK (c_X9_x l dC dI cy a0 m0 0 l6_103 v143 e143) (g_V gw947 gw949 gw13 gw63 gw950) hdV_X9_x rfl ⟨⟨Nat.le_of_ble_eq_true rfl, Nat.le_of_ble_eq_true rfl⟩, Nat.le_of_ble_eq_true rfl, Nat.le_of_ble_eq_true rfl⟩ hP hD hS hA ⟨rfl, rfl⟩ rfl [0, 1, 2, 3, 4, 5, 6, 7, 8, 9, 10, 11, 12, 13, 14] [] rfl rfl rfl (by decide) (by decide) hl.1 rfl (Nat.le_of_ble_eq_true rfl) rfl rfl rfl dX9_hull_143 (fun H locs hP hD hS => ?_)
                have hP : va_P (dC, dI) vwCl (wMod a0 cy m0) H := hP
                have hD : va_D A (wMod a0 cy m0) := hD
                refine lv_aload_n hx hb dX9_hull_146 rfl (lv_at hl 5 rfl) ?_
                refine lv_iconst (v := 0) hx hb dX9_hull_147 (by decide) ?_
                refine lv_iload hx hb dX9_hull_148 (lv_at hl 0 rfl) ?_
                obtain ⟨v150, e150, h⟩ := bnd h
                refine cV (av := [.int 0, .int l6_103]) (rest := [.int v143, .int v136, .int v129, .int v122, .int v116]) (st1 := [.int v150, .int v143, .int v136, .int v129, .int v122, .int v116]) (k1 := 0) (k2 := 0) (ci := 4) (q0 := 0) hx hb hml hown htg hN hK (c_X9_y l dC dI cy a0 m0 0 l6_103 v150 e150) (g_V gw951 gw953 gw14 gw63 gw954) hdV_X9_y rfl ⟨⟨Nat.le_of_ble_eq_true rfl, Nat.le_of_ble_eq_true rfl⟩, Nat.le_of_ble_eq_true rfl, Nat.le_of_ble_eq_true rfl⟩ hP hD hS hA ⟨rfl, rfl⟩ rfl [0, 1, 2, 3, 4, 5, 6, 7, 8, 9, 10, 11, 12, 13, 14] [] rfl rfl rfl (by decide) (by decide) hl.1 rfl (Nat.le_of_ble_eq_true rfl) rfl rfl rfl dX9_hull_150 (fun H locs hP hD hS => ?_)
                have hP : va_P (dC, dI) vwCl (wMod a0 cy m0) H := hP
                have hD : va_D A (wMod a0 cy m0) := hD
                obtain ⟨v153, e153, h⟩ := bnd h
                refine cS (av := [.int v116, .int v122, .int v129, .int v136, .int v143, .int v150]) (rest := []) (st1 := [.int v153]) (k1 := 0) (k2 := 0) hx hb hml hown htg hN hK (c_X9_turnOf l dC dI cy   v116 v122 v129 v136 v143 v150 v153 e153) (g_S gw963 gw964 gw63 gw965) hdS_X9_turnOf rfl ⟨⟨Nat.le_of_ble_eq_true rfl, Nat.le_of_ble_eq_true rfl⟩, Nat.le_of_ble_eq_true rfl, Nat.le_of_ble_eq_true rfl⟩ hP hD hS hA [] [0, 1, 2, 3, 4, 5, 6, 7, 8, 9, 10, 11, 12, 13, 14] rfl rfl rfl (by decide) (by decide) hl.1 rfl (Nat.le_of_ble_eq_true rfl) rfl rfl rfl dX9_hull_153 (fun H locs hP hD hS => ?_)
                obtain ⟨hP, hD⟩ := x_perm (ws' := wMod a0 cy m0) hP hD [0, 1, 2, 3, 4, 5, 6, 7, 8, 9, 10, 11, 12, 13, 14] (by decide) rfl rfl
                refine lv_istore (lv' := [(7, .int v153), (6, .int l6_103), (5, .int l5_103), (3, .int l3_103), (2, .int l2_103), (1, .int l1_103), (0, .ref (a0 0))]) hx hb dX9_hull_156 hl (by decide) rfl (fun ls hl => ?_)
                refine lv_aload_n hx hb dX9_hull_158 rfl (lv_at hl 6 rfl) ?_
                refine lv_iload_n hx hb dX9_hull_159 rfl (lv_at hl 3 rfl) ?_
                refine lv_iload hx hb dX9_hull_160 (lv_at hl 1 rfl) ?_
                obtain ⟨v162, e162, h⟩ := bnd h
                refine cV (av := [.int l3_103, .int l6_103]) (rest := []) (st1 := [.int v162]) (k1 := 0) (k2 := 0) (ci := 4) (q0 := 0) hx hb hml hown htg hN hK (c_X9_squareOf l dC dI cy a0 m0 l3_103 l6_103 v162 e162) (g_V gw1074 gw1076 gw39 gw63 gw1077) hdV_X9_squareOf rfl ⟨⟨Nat.le_of_ble_eq_true rfl, Nat.le_of_ble_eq_true rfl⟩, Nat.le_of_ble_eq_true rfl, Nat.le_of_ble_eq_true rfl⟩ hP hD hS hA ⟨rfl, rfl⟩ rfl [0, 1, 2, 3, 4, 5, 6, 7, 8, 9, 10, 11, 12, 13, 14] [] rfl rfl rfl (by decide) (by decide) hl.1 rfl (Nat.le_of_ble_eq_true rfl) rfl rfl rfl dX9_hull_162 (fun H locs hP hD hS => ?_)
                have hP : va_P (dC, dI) vwCl (wMod a0 cy m0) H := hP
                have hD : va_D A (wMod a0 cy m0) := hD
                refine lv_aload_n hx hb dX9_hull_165 rfl (lv_at hl 6 rfl) ?_
                refine lv_iload_n hx hb dX9_hull_166 rfl (lv_at hl 3 rfl) ?_
                refine lv_iload hx hb dX9_hull_167 (lv_at hl 2 rfl) ?_
                obtain ⟨v169, e169, h⟩ := bnd h
                refine cV (av := [.int l3_103, .int l5_103]) (rest := [.int v162]) (st1 := [.int v169, .int v162]) (k1 := 0) (k2 := 0) (ci := 4) (q0 := 0) hx hb hml hown htg hN hK (c_X9_squareOf l dC dI cy a0 m0 l3_103 l5_103 v169 e169) (g_V gw1074 gw1076 gw39 gw63 gw1077) hdV_X9_squareOf rfl ⟨⟨Nat.le_of_ble_eq_true rfl, Nat.le_of_ble_eq_true rfl⟩, Nat.le_of_ble_eq_true rfl, Nat.le_of_ble_eq_true rfl⟩ hP hD hS hA ⟨rfl, rfl⟩ rfl [0, 1, 2, 3, 4, 5, 6, 7, 8, 9, 10, 11, 12, 13, 14] [] rfl rfl rfl (by decide) (by decide) hl.1 rfl (Nat.le_of_ble_eq_true rfl) rfl rfl rfl dX9_hull_169 (fun H locs hP hD hS => ?_)
                have hP : va_P (dC, dI) vwCl (wMod a0 cy m0) H := hP
                have hD : va_D A (wMod a0 cy m0) := hD
                refine lv_isub hx hb dX9_hull_172 ?_
                refine lv_istore (lv' := [(8, .int (v162 - v169)), (7, .int v153), (6, .int l6_103), (5, .int l5_103), (3, .int l3_103), (2, .int l2_103), (1, .int l1_103), (0, .ref (a0 0))]) hx hb dX9_hull_173 hl (by decide) rfl (fun ls hl => ?_)
                refine lv_iload hx hb dX9_hull_175 (lv_at hl 1 rfl) ?_
                obtain ⟨b177, e177, h⟩ := bnd h
                have hr197 : ∀ (H : Heap) (locs : List Loc) (ls : Array Slot), va_P (dC, dI) vwCl (wMod a0 cy m0) H → va_D A (wMod a0 cy m0) → va_S A s.heap H locs → lv_has ls 9 [(8, .int (v162 - v169)), (7, .int v153), (6, .int l6_103), (5, .int l5_103), (3, .int l3_103), (2, .int l2_103), (1, .int l1_103), (0, .ref (a0 0))] → W p l e rm_X9_hull s mm args below meth cd H locs 0 0 Q (F0 mm 197 ls [.int b177]) := by
                  intro H locs ls hP hD hS hl
                  refine lv_istore (lv' := [(5, .int b177), (8, .int (v162 - v169)), (7, .int v153), (6, .int l6_103), (3, .int l3_103), (2, .int l2_103), (1, .int l1_103), (0, .ref (a0 0))]) hx hb dX9_hull_197 hl (by decide) rfl (fun ls hl => ?_)
                  refine lv_iinc (v := l6_103 + 1) (lv' := [(6, .int (l6_103 + 1)), (5, .int b177), (8, .int (v162 - v169)), (7, .int v153), (3, .int l3_103), (2, .int l2_103), (1, .int l1_103), (0, .ref (a0 0))]) hx hb dX9_hull_199 hl (k := 3) rfl rfl (by decide) rfl (fun ls hl => ?_)
                  refine lv_goto (tgt := 103) hx hb dX9_hull_202 (by decide) ?_
                  exact ih103 (l6_103 + 1) b177 l3_103 l2_103 l1_103 H locs ls h hP hD hS (lv_sub hl [0, 1, 4, 5, 6, 7] rfl)
                have h := e177
                clear e177
                refine lv_if_lt (tgt := 190) hx hb dX9_hull_177 (by decide) (fun c177 => ?_) (fun c177 => ?_)
                · replace h := if_t h c177
                  refine lv_iload hx hb dX9_hull_190 (lv_at hl 2 rfl) ?_
                  refine lv_goto (tgt := 197) hx hb dX9_hull_192 (by decide) ?_
                  obtain rfl := Option.some.inj h
                  exact hr197 H locs ls hP hD hS hl
                replace h := if_f h c177
                refine lv_iload hx hb dX9_hull_180 (lv_at hl 1 rfl) ?_
                refine lv_if_ne (tgt := 195) hx hb dX9_hull_182 (by decide) (fun c182 => ?_) (fun c182 => ?_)
                · replace h := if_f h c182
                  refine lv_iload hx hb dX9_hull_195 (lv_at hl 3 rfl) ?_
                  obtain rfl := Option.some.inj h
                  exact hr197 H locs ls hP hD hS hl
                replace h := if_t h c182
                refine lv_iload hx hb dX9_hull_185 (lv_at hl 0 rfl) ?_
                refine lv_if_le (tgt := 195) hx hb dX9_hull_187 (by decide) (fun c187 => ?_) (fun c187 => ?_)
                · replace h := if_t h c187
                  refine lv_iload hx hb dX9_hull_195 (lv_at hl 3 rfl) ?_
                  obtain rfl := Option.some.inj h
                  exact hr197 H locs ls hP hD hS hl
                replace h := if_f h c187
                refine lv_iload hx hb dX9_hull_190 (lv_at hl 2 rfl) ?_
                refine lv_goto (tgt := 197) hx hb dX9_hull_192 (by decide) ?_
                obtain rfl := Option.some.inj h
                exact hr197 H locs ls hP hD hS hl
            exact hL103 FU 0 v95 l3_87 l2_87 l1_87 H locs ls h hP hD hS (lv_sub hl [0, 1, 3, 4, 5, 6] rfl)
        exact hL87 FU 1 l1_4 0 l1_4 H locs ls h hP hD hS (lv_sub hl [0, 1, 2, 3, 4] rfl)
      replace h := if_f h c10
      refine lv_aload_n hx hb dX9_hull_13 rfl (lv_at hl 2 rfl) ?_
      refine lv_iconst (v := 0) hx hb dX9_hull_14 (by decide) ?_
      refine lv_iload_n hx hb dX9_hull_15 rfl (lv_at hl 0 rfl) ?_
      obtain ⟨v16, e16, h⟩ := bnd h
      refine cV (av := [.int 0, .int l2_4]) (rest := []) (st1 := [.int v16]) (k1 := 0) (k2 := 0) (ci := 4) (q0 := 0) hx hb hml hown htg hN hK (c_X9_y l dC dI cy a0 m0 0 l2_4 v16 e16) (g_V gw951 gw953 gw14 gw63 gw954) hdV_X9_y rfl ⟨⟨Nat.le_of_ble_eq_true rfl, Nat.le_of_ble_eq_true rfl⟩, Nat.le_of_ble_eq_true rfl, Nat.le_of_ble_eq_true rfl⟩ hP hD hS hA ⟨rfl, rfl⟩ rfl [0, 1, 2, 3, 4, 5, 6, 7, 8, 9, 10, 11, 12, 13, 14] [] rfl rfl rfl (by decide) (by decide) hl.1 rfl (Nat.le_of_ble_eq_true rfl) rfl rfl rfl dX9_hull_16 (fun H locs hP hD hS => ?_)
      have hP : va_P (dC, dI) vwCl (wMod a0 cy m0) H := hP
      have hD : va_D A (wMod a0 cy m0) := hD
      refine lv_aload_n hx hb dX9_hull_19 rfl (lv_at hl 2 rfl) ?_
      refine lv_iconst (v := 0) hx hb dX9_hull_20 (by decide) ?_
      refine lv_iload_n hx hb dX9_hull_21 rfl (lv_at hl 1 rfl) ?_
      obtain ⟨v22, e22, h⟩ := bnd h
      refine cV (av := [.int 0, .int l1_4]) (rest := [.int v16]) (st1 := [.int v22, .int v16]) (k1 := 0) (k2 := 0) (ci := 4) (q0 := 0) hx hb hml hown htg hN hK (c_X9_y l dC dI cy a0 m0 0 l1_4 v22 e22) (g_V gw951 gw953 gw14 gw63 gw954) hdV_X9_y rfl ⟨⟨Nat.le_of_ble_eq_true rfl, Nat.le_of_ble_eq_true rfl⟩, Nat.le_of_ble_eq_true rfl, Nat.le_of_ble_eq_true rfl⟩ hP hD hS hA ⟨rfl, rfl⟩ rfl [0, 1, 2, 3, 4, 5, 6, 7, 8, 9, 10, 11, 12, 13, 14] [] rfl rfl rfl (by decide) (by decide) hl.1 rfl (Nat.le_of_ble_eq_true rfl) rfl rfl rfl dX9_hull_22 (fun H locs hP hD hS => ?_)
      have hP : va_P (dC, dI) vwCl (wMod a0 cy m0) H := hP
      have hD : va_D A (wMod a0 cy m0) := hD
      obtain ⟨b25, e25, h⟩ := bnd h
      have hr63 : ∀ (H : Heap) (locs : List Loc) (ls : Array Slot), va_P (dC, dI) vwCl (wMod a0 cy m0) H → va_D A (wMod a0 cy m0) → va_S A s.heap H locs → lv_has ls 9 [(2, .int l2_4), (1, .int l1_4), (0, .ref (a0 0))] → W p l e rm_X9_hull s mm args below meth cd H locs 0 0 Q (F0 mm 63 ls [.int b25]) := by
        intro H locs ls hP hD hS hl
        refine lv_istore_n (lv' := [(3, .int b25), (2, .int l2_4), (1, .int l1_4), (0, .ref (a0 0))]) hx hb dX9_hull_63 rfl hl (by decide) rfl (fun ls hl => ?_)
        refine lv_iload_n hx hb dX9_hull_64 rfl (lv_at hl 0 rfl) ?_
        obtain ⟨b65, e65, h⟩ := bnd h
        have hr73 : ∀ (H : Heap) (locs : List Loc) (ls : Array Slot), va_P (dC, dI) vwCl (wMod a0 cy m0) H → va_D A (wMod a0 cy m0) → va_S A s.heap H locs → lv_has ls 9 [(3, .int b25), (2, .int l2_4), (1, .int l1_4), (0, .ref (a0 0))] → W p l e rm_X9_hull s mm args below meth cd H locs 0 0 Q (F0 mm 73 ls [.int b65]) := by
          intro H locs ls hP hD hS hl
          refine lv_istore_n (lv' := [(1, .int b65), (3, .int b25), (2, .int l2_4), (0, .ref (a0 0))]) hx hb dX9_hull_73 rfl hl (by decide) rfl (fun ls hl => ?_)
          refine lv_iinc (v := l2_4 + 1) (lv' := [(2, .int (l2_4 + 1)), (1, .int b65), (3, .int b25), (0, .ref (a0 0))]) hx hb dX9_hull_74 hl (k := 2) rfl rfl (by decide) rfl (fun ls hl => ?_)
          refine lv_goto (tgt := 4) hx hb dX9_hull_77 (by decide) ?_
          exact ih4 (l2_4 + 1) b65 H locs ls h hP hD hS (lv_sub hl [0, 1, 3] rfl)
        have h := e65
        clear e65
        refine lv_if_eq (tgt := 72) hx hb dX9_hull_65 (by decide) (fun c65 => ?_) (fun c65 => ?_)
        · replace h := if_t h c65
          refine lv_iload_n hx hb dX9_hull_72 rfl (lv_at hl 2 rfl) ?_
          obtain rfl := Option.some.inj h
          exact hr73 H locs ls hP hD hS hl
        replace h := if_f h c65
        refine lv_iload_n hx hb dX9_hull_68 rfl (lv_at hl 1 rfl) ?_
        refine lv_goto (tgt := 73) hx hb dX9_hull_69 (by decide) ?_
        obtain rfl := Option.some.inj h
        exact hr73 H locs ls hP hD hS hl
      have h := e25
      clear e25
      refine lv_icmp_lt (tgt := 58) hx hb dX9_hull_25 (by decide) (fun c25 => ?_) (fun c25 => ?_)
      · replace h := if_t h c25
        refine lv_iconst (v := 1) hx hb dX9_hull_58 (by decide) ?_
        refine lv_goto (tgt := 63) hx hb dX9_hull_59 (by decide) ?_
        obtain rfl := Option.some.inj h
        exact hr63 H locs ls hP hD hS hl
      replace h := if_f h c25
      refine lv_aload_n hx hb dX9_hull_28 rfl (lv_at hl 2 rfl) ?_
      refine lv_iconst (v := 0) hx hb dX9_hull_29 (by decide) ?_
      refine lv_iload_n hx hb dX9_hull_30 rfl (lv_at hl 0 rfl) ?_
      obtain ⟨v31, e31, h⟩ := bnd h
      refine cV (av := [.int 0, .int l2_4]) (rest := []) (st1 := [.int v31]) (k1 := 0) (k2 := 0) (ci := 4) (q0 := 0) hx hb hml hown htg hN hK (c_X9_y l dC dI cy a0 m0 0 l2_4 v31 e31) (g_V gw951 gw953 gw14 gw63 gw954) hdV_X9_y rfl ⟨⟨Nat.le_of_ble_eq_true rfl, Nat.le_of_ble_eq_true rfl⟩, Nat.le_of_ble_eq_true rfl, Nat.le_of_ble_eq_true rfl⟩ hP hD hS hA ⟨rfl, rfl⟩ rfl [0, 1, 2, 3, 4, 5, 6, 7, 8, 9, 10, 11, 12, 13, 14] [] rfl rfl rfl (by decide) (by decide) hl.1 rfl (Nat.le_of_ble_eq_true rfl) rfl rfl rfl dX9_hull_31 (fun H locs hP hD hS => ?_)
      have hP : va_P (dC, dI) vwCl (wMod a0 cy m0) H := hP
      have hD : va_D A (wMod a0 cy m0) := hD
      refine lv_aload_n hx hb dX9_hull_34 rfl (lv_at hl 2 rfl) ?_
      refine lv_iconst (v := 0) hx hb dX9_hull_35 (by decide) ?_
      refine lv_iload_n hx hb dX9_hull_36 rfl (lv_at hl 1 rfl) ?_
      obtain ⟨v37, e37, h⟩ := bnd h
      refine cV (av := [.int 0, .int l1_4]) (rest := [.int v31]) (st1 := [.int v37, .int v31]) (k1 := 0) (k2 := 0) (ci := 4) (q0 := 0) hx hb hml hown htg hN hK (c_X9_y l dC dI cy a0 m0 0 l1_4 v37 e37) (g_V gw951 gw953 gw14 gw63 gw954) hdV_X9_y rfl ⟨⟨Nat.le_of_ble_eq_true rfl, Nat.le_of_ble_eq_true rfl⟩, Nat.le_of_ble_eq_true rfl, Nat.le_of_ble_eq_true rfl⟩ hP hD hS hA ⟨rfl, rfl⟩ rfl [0, 1, 2, 3, 4, 5, 6, 7, 8, 9, 10, 11, 12, 13, 14] [] rfl rfl rfl (by decide) (by decide) hl.1 rfl (Nat.le_of_ble_eq_true rfl) rfl rfl rfl dX9_hull_37 (fun H locs hP hD hS => ?_)
      have hP : va_P (dC, dI) vwCl (wMod a0 cy m0) H := hP
      have hD : va_D A (wMod a0 cy m0) := hD
      refine lv_icmp_ne (tgt := 62) hx hb dX9_hull_40 (by decide) (fun c40 => ?_) (fun c40 => ?_)
      · replace h := if_f h c40
        refine lv_iconst (v := 0) hx hb dX9_hull_62 (by decide) ?_
        obtain rfl := Option.some.inj h
        exact hr63 H locs ls hP hD hS hl
      replace h := if_t h c40
      refine lv_aload_n hx hb dX9_hull_43 rfl (lv_at hl 2 rfl) ?_
      refine lv_iconst (v := 0) hx hb dX9_hull_44 (by decide) ?_
      refine lv_iload_n hx hb dX9_hull_45 rfl (lv_at hl 0 rfl) ?_
      obtain ⟨v46, e46, h⟩ := bnd h
      refine cV (av := [.int 0, .int l2_4]) (rest := []) (st1 := [.int v46]) (k1 := 0) (k2 := 0) (ci := 4) (q0 := 0) hx hb hml hown htg hN hK (c_X9_x l dC dI cy a0 m0 0 l2_4 v46 e46) (g_V gw947 gw949 gw13 gw63 gw950) hdV_X9_x rfl ⟨⟨Nat.le_of_ble_eq_true rfl, Nat.le_of_ble_eq_true rfl⟩, Nat.le_of_ble_eq_true rfl, Nat.le_of_ble_eq_true rfl⟩ hP hD hS hA ⟨rfl, rfl⟩ rfl [0, 1, 2, 3, 4, 5, 6, 7, 8, 9, 10, 11, 12, 13, 14] [] rfl rfl rfl (by decide) (by decide) hl.1 rfl (Nat.le_of_ble_eq_true rfl) rfl rfl rfl dX9_hull_46 (fun H locs hP hD hS => ?_)
      have hP : va_P (dC, dI) vwCl (wMod a0 cy m0) H := hP
      have hD : va_D A (wMod a0 cy m0) := hD
      refine lv_aload_n hx hb dX9_hull_49 rfl (lv_at hl 2 rfl) ?_
      refine lv_iconst (v := 0) hx hb dX9_hull_50 (by decide) ?_
      refine lv_iload_n hx hb dX9_hull_51 rfl (lv_at hl 1 rfl) ?_
      obtain ⟨v52, e52, h⟩ := bnd h
      refine cV (av := [.int 0, .int l1_4]) (rest := [.int v46]) (st1 := [.int v52, .int v46]) (k1 := 0) (k2 := 0) (ci := 4) (q0 := 0) hx hb hml hown htg hN hK (c_X9_x l dC dI cy a0 m0 0 l1_4 v52 e52) (g_V gw947 gw949 gw13 gw63 gw950) hdV_X9_x rfl ⟨⟨Nat.le_of_ble_eq_true rfl, Nat.le_of_ble_eq_true rfl⟩, Nat.le_of_ble_eq_true rfl, Nat.le_of_ble_eq_true rfl⟩ hP hD hS hA ⟨rfl, rfl⟩ rfl [0, 1, 2, 3, 4, 5, 6, 7, 8, 9, 10, 11, 12, 13, 14] [] rfl rfl rfl (by decide) (by decide) hl.1 rfl (Nat.le_of_ble_eq_true rfl) rfl rfl rfl dX9_hull_52 (fun H locs hP hD hS => ?_)
      have hP : va_P (dC, dI) vwCl (wMod a0 cy m0) H := hP
      have hD : va_D A (wMod a0 cy m0) := hD
      refine lv_icmp_ge (tgt := 62) hx hb dX9_hull_55 (by decide) (fun c55 => ?_) (fun c55 => ?_)
      · replace h := if_t h c55
        refine lv_iconst (v := 0) hx hb dX9_hull_62 (by decide) ?_
        obtain rfl := Option.some.inj h
        exact hr63 H locs ls hP hD hS hl
      replace h := if_f h c55
      refine lv_iconst (v := 1) hx hb dX9_hull_58 (by decide) ?_
      refine lv_goto (tgt := 63) hx hb dX9_hull_59 (by decide) ?_
      obtain rfl := Option.some.inj h
      exact hr63 H locs ls hP hD hS hl
  exact hL4 FU 1 0 H locs ls h hP hD hS (lv_sub hl [0, 1, 2] rfl)
def G_X9_seenBy_L19 (r5 : Mod → Int32 → Int32 → Int32 → Int32 → Option (Int32 × Mod))  : Nat → Mod → Int32 → Int32 → Int32 → Int32 → Int32 → Option (Int32 × Mod)
  | 0, _, _, _, _, _, _ => none
  | n19 + 1, m0_19, l5_19, l4_19, l3_19, l1_19, l2_19 =>
    (G_X9_many m0_19 l4_19).bind fun v24 =>
    if v24 ≤ l5_19 then
      r5 m0_19 (l4_19 + 1) l3_19 l1_19 l2_19
    else
      (G_X9_areSeeing m0_19 l1_19 l2_19 l4_19 l5_19).bind fun v38 =>
      ((if v38.1 = 0 then
          some 0
        else
          some 1) : Option (Int32)).bind fun b41 =>
      (G_X9_seenBy_L19 r5 n19) v38.2 (l5_19 + 1) l4_19 (l3_19 + b41) l1_19 l2_19
def G_X9_seenBy_L5   : Nat → Mod → Int32 → Int32 → Int32 → Int32 → Option (Int32 × Mod)
  | 0, _, _, _, _, _ => none
  | n5 + 1, m0_5, l4_5, l3_5, l1_5, l2_5 =>
    (rd 85 (m_state m0_5) 0).bind fun v12 =>
    if v12 ≤ l4_5 then
      some (l3_5, m0_5)
    else
      G_X9_seenBy_L19 (G_X9_seenBy_L5 n5) FU m0_5 0 l4_5 l3_5 l1_5 l2_5
def G_X9_seenBy (m0 : Mod) (p1 : Int32) (p2 : Int32) : Option (Int32 × Mod) :=
  G_X9_seenBy_L5 FU m0 0 0 p1 p2
abbrev rm_X9_seenBy : Room := { frames := 5, cells := 0, slots := 0, locals := 134 }
theorem hdS_X9_seenBy : yX9_seenBy.cls ≠ "java/lang/invoke/MethodHandle" ∧ yX9_seenBy.cls ≠ "java/lang/invoke/VarHandle" ∧ (parseMethodDescriptor yX9_seenBy.desc).map (fun d => d.parameters.length) = some 2 := by decide +kernel
theorem hdV_X9_seenBy : yX9_seenBy.cls = RX9 ∧ yX9_seenBy.cls ≠ "java/lang/invoke/MethodHandle" ∧ yX9_seenBy.cls ≠ "java/lang/invoke/VarHandle" ∧ (parseMethodDescriptor yX9_seenBy.desc).map (fun d => d.parameters.length) = some 2 := ⟨rfl, hdS_X9_seenBy⟩
set_option maxHeartbeats 4000000 in
set_option maxRecDepth 100000 in
theorem c_X9_seenBy (l : Launch) (dC : Nat → ClassId) (dI : Nat → Nat → Nat) (cy : Nat → ClassId) (a0 : Nat → Nat) (m0 : Mod) (p1 : Int32) (p2 : Int32) (res : Int32 × Mod) (h : G_X9_seenBy m0 p1 p2 = some res) : CT l (dC, dI) (TY cy) yX9_seenBy cX9_seenBy 6 (some .int) rm_X9_seenBy [.ref (a0 0), .int p1, .int p2] (wMod a0 cy m0) (wMod a0 cy res.2) (some (.int res.1)) := by
  refine CT.mk_i (own := RX9) ⟨by decide, rfl⟩ (Nat.le_of_ble_eq_true rfl) ?_
  intro p e s mm args below meth cd A Q hx hb hml hown htg hN hK hA hP hD hS hE ls hl
  have hl : lv_has ls 6 [(0, .ref (a0 0)), (1, .int p1), (2, .int p2)] := hl
  replace h : _ = some res := h
  unfold G_X9_seenBy at h
  obtain ⟨H, hH⟩ : ∃ H, H = s.heap := ⟨_, rfl⟩
  obtain ⟨locs, hlocs⟩ : ∃ locs : List Loc, locs = [] := ⟨_, rfl⟩
  rw [← hlocs] at hS ⊢
  have hS : va_S A s.heap H locs := by rw [hH]; exact hS
  rw [← hH] at hP ⊢
  refine lv_iconst (v := 0) hx hb dX9_seenBy_0 (by decide) ?_
  refine lv_istore_n (lv' := [(3, .int 0), (0, .ref (a0 0)), (1, .int p1), (2, .int p2)]) hx hb dX9_seenBy_1 rfl hl (by decide) rfl (fun ls hl => ?_)
  refine lv_iconst (v := 0) hx hb dX9_seenBy_2 (by decide) ?_
  refine lv_istore (lv' := [(4, .int 0), (3, .int 0), (0, .ref (a0 0)), (1, .int p1), (2, .int p2)]) hx hb dX9_seenBy_3 hl (by decide) rfl (fun ls hl => ?_)
  have hL5 : ∀ (n5 : Nat) (m0_5 : Mod) (l4_5 : Int32) (l3_5 : Int32) (l1_5 : Int32) (l2_5 : Int32) (H : Heap) (locs : List Loc) (ls : Array Slot), G_X9_seenBy_L5 n5 m0_5 l4_5 l3_5 l1_5 l2_5 = some res → va_P (dC, dI) vwCl (wMod a0 cy m0_5) H → va_D A (wMod a0 cy m0_5) → va_S A s.heap H locs → lv_has ls 6 [(4, .int l4_5), (3, .int l3_5), (0, .ref (a0 0)), (1, .int l1_5), (2, .int l2_5)] → W p l e rm_X9_seenBy s mm args below meth cd H locs 0 0 Q (F0 mm 5 ls []) := by
    intro n5
    induction n5 with
    | zero => intro m0_5 l4_5 l3_5 l1_5 l2_5 H locs ls h; exact absurd h (by simp [G_X9_seenBy_L5])
    | succ n5 ih5 =>
      intro m0_5 l4_5 l3_5 l1_5 l2_5 H locs ls h hP hD hS hl
      rw [G_X9_seenBy_L5] at h
      refine lv_iload hx hb dX9_seenBy_5 (lv_at hl 0 rfl) ?_
      refine lv_aload_n hx hb dX9_seenBy_7 rfl (lv_at hl 2 rfl) ?_
      refine va_get (D := (dC, dI)) (ci := 4) (v := .ref (a0 1)) (C := RX9) (T := TX9) (N := 18) hx hb htg inX9 hown hK hP 0 rfl rfl 1 (by decide) (htg _ gw851) (fun _ h9 => h9) rfl dX9_seenBy_8 ?_
      refine lv_iconst (v := 0) hx hb dX9_seenBy_11 (by decide) ?_
      obtain ⟨v12, e12, h⟩ := bnd h
      refine x_iald (v := v12) hx hb hK hP 1 0 rfl rfl e12 dX9_seenBy_12 ?_
      refine lv_icmp_ge (tgt := 63) hx hb dX9_seenBy_13 (by decide) (fun c13 => ?_) (fun c13 => ?_)
      · replace h := if_t h c13
        refine lv_iload_n hx hb dX9_seenBy_63 rfl (lv_at hl 1 rfl) ?_
        obtain rfl := Option.some.inj h
        exact hE H locs 64 ls _ hP hD hS rfl dX9_seenBy_64
      replace h := if_f h c13
      refine lv_iconst (v := 0) hx hb dX9_seenBy_16 (by decide) ?_
      refine lv_istore (lv' := [(5, .int 0), (4, .int l4_5), (3, .int l3_5), (0, .ref (a0 0)), (1, .int l1_5), (2, .int l2_5)]) hx hb dX9_seenBy_17 hl (by decide) rfl (fun ls hl => ?_)
      have hL19 : ∀ (n19 : Nat) (m0_19 : Mod) (l5_19 : Int32) (l4_19 : Int32) (l3_19 : Int32) (l1_19 : Int32) (l2_19 : Int32) (H : Heap) (locs : List Loc) (ls : Array Slot), G_X9_seenBy_L19 (G_X9_seenBy_L5 n5) n19 m0_19 l5_19 l4_19 l3_19 l1_19 l2_19 = some res → va_P (dC, dI) vwCl (wMod a0 cy m0_19) H → va_D A (wMod a0 cy m0_19) → va_S A s.heap H locs → lv_has ls 6 [(5, .int l5_19), (4, .int l4_19), (3, .int l3_19), (0, .ref (a0 0)), (1, .int l1_19), (2, .int l2_19)] → W p l e rm_X9_seenBy s mm args below meth cd H locs 0 0 Q (F0 mm 19 ls []) := by
        intro n19
        induction n19 with
        | zero => intro m0_19 l5_19 l4_19 l3_19 l1_19 l2_19 H locs ls h; exact absurd h (by simp [G_X9_seenBy_L19])
        | succ n19 ih19 =>
          intro m0_19 l5_19 l4_19 l3_19 l1_19 l2_19 H locs ls h hP hD hS hl
          rw [G_X9_seenBy_L19] at h
          refine lv_iload hx hb dX9_seenBy_19 (lv_at hl 0 rfl) ?_
          refine lv_aload_n hx hb dX9_seenBy_21 rfl (lv_at hl 3 rfl) ?_
          refine lv_iload hx hb dX9_seenBy_22 (lv_at hl 1 rfl) ?_
          obtain ⟨v24, e24, h⟩ := bnd h
          refine cV (av := [.int l4_19]) (rest := [.int l5_19]) (st1 := [.int v24, .int l5_19]) (k1 := 0) (k2 := 0) (ci := 4) (q0 := 0) hx hb hml hown htg hN hK (c_X9_many l dC dI cy a0 m0_19 l4_19 v24 e24) (g_V gw935 gw937 gw10 gw63 gw938) hdV_X9_many rfl ⟨⟨Nat.le_of_ble_eq_true rfl, Nat.le_of_ble_eq_true rfl⟩, Nat.le_of_ble_eq_true rfl, Nat.le_of_ble_eq_true rfl⟩ hP hD hS hA ⟨rfl, rfl⟩ rfl [0, 1, 2, 3, 4, 5, 6, 7, 8, 9, 10, 11, 12, 13, 14] [] rfl rfl rfl (by decide) (by decide) hl.1 rfl (Nat.le_of_ble_eq_true rfl) rfl rfl rfl dX9_seenBy_24 (fun H locs hP hD hS => ?_)
          have hP : va_P (dC, dI) vwCl (wMod a0 cy m0_19) H := hP
          have hD : va_D A (wMod a0 cy m0_19) := hD
          refine lv_icmp_ge (tgt := 57) hx hb dX9_seenBy_27 (by decide) (fun c27 => ?_) (fun c27 => ?_)
          · replace h := if_t h c27
            refine lv_iinc (v := l4_19 + 1) (lv' := [(4, .int (l4_19 + 1)), (5, .int l5_19), (3, .int l3_19), (0, .ref (a0 0)), (1, .int l1_19), (2, .int l2_19)]) hx hb dX9_seenBy_57 hl (k := 1) rfl rfl (by decide) rfl (fun ls hl => ?_)
            refine lv_goto (tgt := 5) hx hb dX9_seenBy_60 (by decide) ?_
            exact ih5 m0_19 (l4_19 + 1) l3_19 l1_19 l2_19 H locs ls h hP hD hS (lv_sub hl [0, 2, 3, 4, 5] rfl)
          replace h := if_f h c27
          refine lv_iload_n hx hb dX9_seenBy_30 rfl (lv_at hl 2 rfl) ?_
          refine lv_aload_n hx hb dX9_seenBy_31 rfl (lv_at hl 3 rfl) ?_
          refine lv_iload_n hx hb dX9_seenBy_32 rfl (lv_at hl 4 rfl) ?_
          refine lv_iload_n hx hb dX9_seenBy_33 rfl (lv_at hl 5 rfl) ?_
          refine lv_iload hx hb dX9_seenBy_34 (lv_at hl 1 rfl) ?_
          refine lv_iload hx hb dX9_seenBy_36 (lv_at hl 0 rfl) ?_
          obtain ⟨v38, e38, h⟩ := bnd h
          refine cV (av := [.int l1_19, .int l2_19, .int l4_19, .int l5_19]) (rest := [.int l3_19]) (st1 := [.int v38.1, .int l3_19]) (k1 := 0) (k2 := 0) (ci := 4) (q0 := 0) hx hb hml hown htg hN hK (c_X9_areSeeing l dC dI cy a0 m0_19 l1_19 l2_19 l4_19 l5_19 v38 e38) (g_V gw1062 gw1064 gw36 gw63 gw1065) hdV_X9_areSeeing rfl ⟨⟨Nat.le_of_ble_eq_true rfl, Nat.le_of_ble_eq_true rfl⟩, Nat.le_of_ble_eq_true rfl, Nat.le_of_ble_eq_true rfl⟩ hP hD hS hA ⟨rfl, rfl⟩ rfl [0, 1, 2, 3, 4, 5, 6, 7, 8, 9, 10, 11, 12, 13, 14] [] rfl rfl rfl (by decide) (by decide) hl.1 rfl (Nat.le_of_ble_eq_true rfl) rfl rfl rfl dX9_seenBy_38 (fun H locs hP hD hS => ?_)
          have hP : va_P (dC, dI) vwCl (wMod a0 cy v38.2) H := hP
          have hD : va_D A (wMod a0 cy v38.2) := hD
          obtain ⟨b41, e41, h⟩ := bnd h
          have hr49 : ∀ (H : Heap) (locs : List Loc) (ls : Array Slot), va_P (dC, dI) vwCl (wMod a0 cy v38.2) H → va_D A (wMod a0 cy v38.2) → va_S A s.heap H locs → lv_has ls 6 [(5, .int l5_19), (4, .int l4_19), (3, .int l3_19), (0, .ref (a0 0)), (1, .int l1_19), (2, .int l2_19)] → W p l e rm_X9_seenBy s mm args below meth cd H locs 0 0 Q (F0 mm 49 ls [.int b41, .int l3_19]) := by
            intro H locs ls hP hD hS hl
            refine lv_iadd hx hb dX9_seenBy_49 ?_
            refine lv_istore_n (lv' := [(3, .int (l3_19 + b41)), (5, .int l5_19), (4, .int l4_19), (0, .ref (a0 0)), (1, .int l1_19), (2, .int l2_19)]) hx hb dX9_seenBy_50 rfl hl (by decide) rfl (fun ls hl => ?_)
            refine lv_iinc (v := l5_19 + 1) (lv' := [(5, .int (l5_19 + 1)), (3, .int (l3_19 + b41)), (4, .int l4_19), (0, .ref (a0 0)), (1, .int l1_19), (2, .int l2_19)]) hx hb dX9_seenBy_51 hl (k := 1) rfl rfl (by decide) rfl (fun ls hl => ?_)
            refine lv_goto (tgt := 19) hx hb dX9_seenBy_54 (by decide) ?_
            exact ih19 v38.2 (l5_19 + 1) l4_19 (l3_19 + b41) l1_19 l2_19 H locs ls h hP hD hS (lv_sub hl [0, 2, 1, 3, 4, 5] rfl)
          have h := e41
          clear e41
          refine lv_if_eq (tgt := 48) hx hb dX9_seenBy_41 (by decide) (fun c41 => ?_) (fun c41 => ?_)
          · replace h := if_t h c41
            refine lv_iconst (v := 0) hx hb dX9_seenBy_48 (by decide) ?_
            obtain rfl := Option.some.inj h
            exact hr49 H locs ls hP hD hS hl
          replace h := if_f h c41
          refine lv_iconst (v := 1) hx hb dX9_seenBy_44 (by decide) ?_
          refine lv_goto (tgt := 49) hx hb dX9_seenBy_45 (by decide) ?_
          obtain rfl := Option.some.inj h
          exact hr49 H locs ls hP hD hS hl
      exact hL19 FU m0_5 0 l4_5 l3_5 l1_5 l2_5 H locs ls h hP hD hS (lv_sub hl [0, 1, 2, 3, 4, 5] rfl)
  exact hL5 FU m0 0 0 p1 p2 H locs ls h hP hD hS (lv_sub hl [0, 1, 2, 3, 4] rfl)
def G_X9_about_L95   : Nat → Mod → Int32 → Int32 → Option (Int32 × Mod)
  | 0, _, _, _ => none
  | n95 + 1, m0_95, l3_95, l2_95 =>
    (rd 85 (m_state m0_95) 0).bind fun v101 =>
    if v101 ≤ l3_95 then
      some (l2_95, m0_95)
    else
      (G_X9_ringPoints m0_95 l3_95).bind fun v108 =>
      (G_X9_about_L95 n95) m0_95 (l3_95 + 1) (l2_95 + v108)
def G_X9_about_L140   : Nat → Mod → Int32 → Int32 → Option (Int32 × Mod)
  | 0, _, _, _ => none
  | n140 + 1, m0_140, l3_140, l2_140 =>
    (G_X9_many m0_140 0).bind fun v143 =>
    if v143 ≤ l3_140 then
      some (l2_140, m0_140)
    else
      (G_X9_isEar m0_140 l3_140).bind fun v152 =>
      ((if v152.1 = 0 then
          some 0
        else
          some 1) : Option (Int32)).bind fun b155 =>
      (G_X9_about_L140 n140) v152.2 (l3_140 + 1) (l2_140 + b155)
def G_X9_about_L193 (r180 : Mod → Int32 → Int32 → Option (Int32 × Mod))  : Nat → Mod → Int32 → Int32 → Int32 → Option (Int32 × Mod)
  | 0, _, _, _, _ => none
  | n193 + 1, m0_193, l4_193, l3_193, l2_193 =>
    (G_X9_many m0_193 l3_193).bind fun v197 =>
    if v197 ≤ l4_193 then
      r180 m0_193 (l3_193 + 1) l2_193
    else
      (G_X9_seenBy m0_193 l3_193 l4_193).bind fun v208 =>
      (G_X9_about_L193 r180 n193) v208.2 (l4_193 + 1) l3_193 (l2_193 + v208.1)
def G_X9_about_L180   : Nat → Mod → Int32 → Int32 → Option (Int32 × Mod)
  | 0, _, _, _ => none
  | n180 + 1, m0_180, l3_180, l2_180 =>
    (rd 85 (m_state m0_180) 0).bind fun v186 =>
    if v186 ≤ l3_180 then
      some (l2_180 / 2, m0_180)
    else
      G_X9_about_L193 (G_X9_about_L180 n180) FU m0_180 0 l3_180 l2_180
def G_X9_about (m0 : Mod) (p1 : Int32) : Option (Int32 × Mod) :=
  (G_X9_within p1 0 9).bind fun v5 =>
  ((if v5 = 0 then
      some 1
    else
      some 0) : Option (Int32)).bind fun b8 =>
  if p1 = 0 then
    (rd 85 (m_state (ms_thrown m0 b8)) 0).bind fun v81 =>
    some (v81, ms_thrown m0 b8)
  else
  if p1 = 1 then
    (G_X9_cornerMany (ms_thrown m0 b8)).bind fun v84 =>
    some (v84, ms_thrown m0 b8)
  else
  if p1 = 2 then
    (G_X9_area (ms_thrown m0 b8)).bind fun v89 =>
    some (v89, ms_thrown m0 b8)
  else
  if p1 = 3 then
    G_X9_about_L95 FU (ms_thrown m0 b8) 0 0
  else
  if p1 = 4 then
    (G_X9_inside (ms_thrown m0 b8)).bind fun v122 =>
    some (v122, ms_thrown m0 b8)
  else
  if p1 = 5 then
    (G_X9_kindsOf (ms_thrown m0 b8) 1).bind fun v128 =>
    some (v128, ms_thrown m0 b8)
  else
  if p1 = 6 then
    (G_X9_kindsOf (ms_thrown m0 b8) (-1)).bind fun v134 =>
    some (v134, ms_thrown m0 b8)
  else
  if p1 = 7 then
    G_X9_about_L140 FU (ms_thrown m0 b8) 0 0
  else
  if p1 = 8 then
    (G_X9_hull (ms_thrown m0 b8)).bind fun v174 =>
    some (v174, ms_thrown m0 b8)
  else
  if p1 = 9 then
    G_X9_about_L180 FU (ms_thrown m0 b8) 0 0
  else
  some (0, ms_thrown m0 b8)
abbrev rm_X9_about : Room := { frames := 7, cells := 0, slots := 0, locals := 170 }
theorem hdS_X9_about : yX9_about.cls ≠ "java/lang/invoke/MethodHandle" ∧ yX9_about.cls ≠ "java/lang/invoke/VarHandle" ∧ (parseMethodDescriptor yX9_about.desc).map (fun d => d.parameters.length) = some 1 := by decide +kernel
theorem hdV_X9_about : yX9_about.cls = RX9 ∧ yX9_about.cls ≠ "java/lang/invoke/MethodHandle" ∧ yX9_about.cls ≠ "java/lang/invoke/VarHandle" ∧ (parseMethodDescriptor yX9_about.desc).map (fun d => d.parameters.length) = some 1 := ⟨rfl, hdS_X9_about⟩
set_option maxHeartbeats 4000000 in
set_option maxRecDepth 100000 in
theorem c_X9_about (l : Launch) (dC : Nat → ClassId) (dI : Nat → Nat → Nat) (cy : Nat → ClassId) (a0 : Nat → Nat) (m0 : Mod) (p1 : Int32) (res : Int32 × Mod) (h : G_X9_about m0 p1 = some res) : CT l (dC, dI) (TY cy) yX9_about cX9_about 5 (some .int) rm_X9_about [.ref (a0 0), .int p1] (wMod a0 cy m0) (wMod a0 cy res.2) (some (.int res.1)) := by
  refine CT.mk_i (own := RX9) ⟨by decide, rfl⟩ (Nat.le_of_ble_eq_true rfl) ?_
  intro p e s mm args below meth cd A Q hx hb hml hown htg hN hK hA hP hD hS hE ls hl
  have hl : lv_has ls 5 [(0, .ref (a0 0)), (1, .int p1)] := hl
  replace h : _ = some res := h
  unfold G_X9_about at h
  obtain ⟨H, hH⟩ : ∃ H, H = s.heap := ⟨_, rfl⟩
  obtain ⟨locs, hlocs⟩ : ∃ locs : List Loc, locs = [] := ⟨_, rfl⟩
  rw [← hlocs] at hS ⊢
  have hS : va_S A s.heap H locs := by rw [hH]; exact hS
  rw [← hH] at hP ⊢
  refine lv_aload_n hx hb dX9_about_0 rfl (lv_at hl 0 rfl) ?_
  refine lv_iload_n hx hb dX9_about_1 rfl (lv_at hl 1 rfl) ?_
  refine lv_iconst (v := 0) hx hb dX9_about_2 (by decide) ?_
  refine lv_bipush (v := 9) hx hb dX9_about_3 (by decide) ?_
  obtain ⟨v5, e5, h⟩ := bnd h
  refine cS (av := [.int p1, .int 0, .int 9]) (rest := [.ref (a0 0)]) (st1 := [.int v5, .ref (a0 0)]) (k1 := 0) (k2 := 0) hx hb hml hown htg hN hK (c_X9_within l dC dI cy   p1 0 9 v5 e5) (g_S gw913 gw914 gw63 gw915) hdS_X9_within rfl ⟨⟨Nat.le_of_ble_eq_true rfl, Nat.le_of_ble_eq_true rfl⟩, Nat.le_of_ble_eq_true rfl, Nat.le_of_ble_eq_true rfl⟩ hP hD hS hA [] [0, 1, 2, 3, 4, 5, 6, 7, 8, 9, 10, 11, 12, 13, 14] rfl rfl rfl (by decide) (by decide) hl.1 rfl (Nat.le_of_ble_eq_true rfl) rfl rfl rfl dX9_about_5 (fun H locs hP hD hS => ?_)
  obtain ⟨hP, hD⟩ := x_perm (ws' := wMod a0 cy m0) hP hD [0, 1, 2, 3, 4, 5, 6, 7, 8, 9, 10, 11, 12, 13, 14] (by decide) rfl rfl
  obtain ⟨b8, e8, h⟩ := bnd h
  have hr16 : ∀ (H : Heap) (locs : List Loc) (ls : Array Slot), va_P (dC, dI) vwCl (wMod a0 cy m0) H → va_D A (wMod a0 cy m0) → va_S A s.heap H locs → lv_has ls 5 [(0, .ref (a0 0)), (1, .int p1)] → W p l e rm_X9_about s mm args below meth cd H locs 0 0 Q (F0 mm 16 ls [.int b8, .ref (a0 0)]) := by
    intro H locs ls hP hD hS hl
    refine va_put (D := (dC, dI)) (ci := 4) (v := .int b8) (ty := .int) (C := RX9) (T := TX9) (N := 18) hx hb htg inX9 tyX9 tyX9_ok nmX9 hown hK hP hD hS 0 rfl rfl 0 (by decide) (htg _ gw850) (fun _ h9 => h9) rfl (by decide +kernel) rfl rfl (Nat.le_of_ble_eq_true rfl) dX9_about_16 (fun H locs hP hD hS => ?_)
    have hP : va_P (dC, dI) vwCl (wMod a0 cy (ms_thrown m0 b8)) H := hP
    have hD : va_D A (wMod a0 cy (ms_thrown m0 b8)) := hD
    refine lv_iconst (v := 0) hx hb dX9_about_19 (by decide) ?_
    refine lv_istore_n (lv' := [(2, .int 0), (0, .ref (a0 0)), (1, .int p1)]) hx hb dX9_about_20 rfl hl (by decide) rfl (fun ls hl => ?_)
    refine lv_iload_n hx hb dX9_about_21 rfl (lv_at hl 2 rfl) ?_
    by_cases c22_0 : p1 = 0
    · replace h := if_t h c22_0
      refine lv_tableIn (tgt := 76) (off := 54) hx hb dX9_about_22 (by rw [c22_0]; decide) (by rw [c22_0]; decide) (by rw [c22_0]; rfl) (by decide) ?_
      refine lv_aload_n hx hb dX9_about_76 rfl (lv_at hl 1 rfl) ?_
      refine va_get (D := (dC, dI)) (ci := 4) (v := .ref (a0 1)) (C := RX9) (T := TX9) (N := 18) hx hb htg inX9 hown hK hP 0 rfl rfl 1 (by decide) (htg _ gw851) (fun _ h9 => h9) rfl dX9_about_77 ?_
      refine lv_iconst (v := 0) hx hb dX9_about_80 (by decide) ?_
      obtain ⟨v81, e81, h⟩ := bnd h
      refine x_iald (v := v81) hx hb hK hP 1 0 rfl rfl e81 dX9_about_81 ?_
      obtain rfl := Option.some.inj h
      exact hE H locs 82 ls _ hP hD hS rfl dX9_about_82
    replace h := if_f h c22_0
    by_cases c22_1 : p1 = 1
    · replace h := if_t h c22_1
      refine lv_tableIn (tgt := 83) (off := 61) hx hb dX9_about_22 (by rw [c22_1]; decide) (by rw [c22_1]; decide) (by rw [c22_1]; rfl) (by decide) ?_
      refine lv_aload_n hx hb dX9_about_83 rfl (lv_at hl 1 rfl) ?_
      obtain ⟨v84, e84, h⟩ := bnd h
      refine cV (av := []) (rest := []) (st1 := [.int v84]) (k1 := 0) (k2 := 0) (ci := 4) (q0 := 0) hx hb hml hown htg hN hK (c_X9_cornerMany l dC dI cy a0 (ms_thrown m0 b8)  v84 e84) (g_V gw1000 gw1002 gw22 gw63 gw1003) hdV_X9_cornerMany rfl ⟨⟨Nat.le_of_ble_eq_true rfl, Nat.le_of_ble_eq_true rfl⟩, Nat.le_of_ble_eq_true rfl, Nat.le_of_ble_eq_true rfl⟩ hP hD hS hA ⟨rfl, rfl⟩ rfl [0, 1, 2, 3, 4, 5, 6, 7, 8, 9, 10, 11, 12, 13, 14] [] rfl rfl rfl (by decide) (by decide) hl.1 rfl (Nat.le_of_ble_eq_true rfl) rfl rfl rfl dX9_about_84 (fun H locs hP hD hS => ?_)
      have hP : va_P (dC, dI) vwCl (wMod a0 cy (ms_thrown m0 b8)) H := hP
      have hD : va_D A (wMod a0 cy (ms_thrown m0 b8)) := hD
      obtain rfl := Option.some.inj h
      exact hE H locs 87 ls _ hP hD hS rfl dX9_about_87
    replace h := if_f h c22_1
    by_cases c22_2 : p1 = 2
    · replace h := if_t h c22_2
      refine lv_tableIn (tgt := 88) (off := 66) hx hb dX9_about_22 (by rw [c22_2]; decide) (by rw [c22_2]; decide) (by rw [c22_2]; rfl) (by decide) ?_
      refine lv_aload_n hx hb dX9_about_88 rfl (lv_at hl 1 rfl) ?_
      obtain ⟨v89, e89, h⟩ := bnd h
      refine cV (av := []) (rest := []) (st1 := [.int v89]) (k1 := 0) (k2 := 0) (ci := 4) (q0 := 0) hx hb hml hown htg hN hK (c_X9_area l dC dI cy a0 (ms_thrown m0 b8)  v89 e89) (g_V gw1004 gw1006 gw23 gw63 gw1007) hdV_X9_area rfl ⟨⟨Nat.le_of_ble_eq_true rfl, Nat.le_of_ble_eq_true rfl⟩, Nat.le_of_ble_eq_true rfl, Nat.le_of_ble_eq_true rfl⟩ hP hD hS hA ⟨rfl, rfl⟩ rfl [0, 1, 2, 3, 4, 5, 6, 7, 8, 9, 10, 11, 12, 13, 14] [] rfl rfl rfl (by decide) (by decide) hl.1 rfl (Nat.le_of_ble_eq_true rfl) rfl rfl rfl dX9_about_89 (fun H locs hP hD hS => ?_)
      have hP : va_P (dC, dI) vwCl (wMod a0 cy (ms_thrown m0 b8)) H := hP
      have hD : va_D A (wMod a0 cy (ms_thrown m0 b8)) := hD
      obtain rfl := Option.some.inj h
      exact hE H locs 92 ls _ hP hD hS rfl dX9_about_92
    replace h := if_f h c22_2
    by_cases c22_3 : p1 = 3
    · replace h := if_t h c22_3
      refine lv_tableIn (tgt := 93) (off := 71) hx hb dX9_about_22 (by rw [c22_3]; decide) (by rw [c22_3]; decide) (by rw [c22_3]; rfl) (by decide) ?_
      refine lv_iconst (v := 0) hx hb dX9_about_93 (by decide) ?_
      refine lv_istore_n (lv' := [(3, .int 0), (2, .int 0), (0, .ref (a0 0)), (1, .int p1)]) hx hb dX9_about_94 rfl hl (by decide) rfl (fun ls hl => ?_)
      have hL95 : ∀ (n95 : Nat) (m0_95 : Mod) (l3_95 : Int32) (l2_95 : Int32) (H : Heap) (locs : List Loc) (ls : Array Slot), G_X9_about_L95 n95 m0_95 l3_95 l2_95 = some res → va_P (dC, dI) vwCl (wMod a0 cy m0_95) H → va_D A (wMod a0 cy m0_95) → va_S A s.heap H locs → lv_has ls 5 [(3, .int l3_95), (2, .int l2_95), (0, .ref (a0 0))] → W p l e rm_X9_about s mm args below meth cd H locs 0 0 Q (F0 mm 95 ls []) := by
        intro n95
        induction n95 with
        | zero => intro m0_95 l3_95 l2_95 H locs ls h; exact absurd h (by simp [G_X9_about_L95])
        | succ n95 ih95 =>
          intro m0_95 l3_95 l2_95 H locs ls h hP hD hS hl
          rw [G_X9_about_L95] at h
          refine lv_iload_n hx hb dX9_about_95 rfl (lv_at hl 0 rfl) ?_
          refine lv_aload_n hx hb dX9_about_96 rfl (lv_at hl 2 rfl) ?_
          refine va_get (D := (dC, dI)) (ci := 4) (v := .ref (a0 1)) (C := RX9) (T := TX9) (N := 18) hx hb htg inX9 hown hK hP 0 rfl rfl 1 (by decide) (htg _ gw851) (fun _ h9 => h9) rfl dX9_about_97 ?_
          refine lv_iconst (v := 0) hx hb dX9_about_100 (by decide) ?_
          obtain ⟨v101, e101, h⟩ := bnd h
          refine x_iald (v := v101) hx hb hK hP 1 0 rfl rfl e101 dX9_about_101 ?_
          refine lv_icmp_ge (tgt := 119) hx hb dX9_about_102 (by decide) (fun c102 => ?_) (fun c102 => ?_)
          · replace h := if_t h c102
            refine lv_iload_n hx hb dX9_about_119 rfl (lv_at hl 1 rfl) ?_
            obtain rfl := Option.some.inj h
            exact hE H locs 120 ls _ hP hD hS rfl dX9_about_120
          replace h := if_f h c102
          refine lv_iload_n hx hb dX9_about_105 rfl (lv_at hl 1 rfl) ?_
          refine lv_aload_n hx hb dX9_about_106 rfl (lv_at hl 2 rfl) ?_
          refine lv_iload_n hx hb dX9_about_107 rfl (lv_at hl 0 rfl) ?_
          obtain ⟨v108, e108, h⟩ := bnd h
          refine cV (av := [.int l3_95]) (rest := [.int l2_95]) (st1 := [.int v108, .int l2_95]) (k1 := 0) (k2 := 0) (ci := 4) (q0 := 0) hx hb hml hown htg hN hK (c_X9_ringPoints l dC dI cy a0 m0_95 l3_95 v108 e108) (g_V gw1015 gw1017 gw25 gw63 gw1018) hdV_X9_ringPoints rfl ⟨⟨Nat.le_of_ble_eq_true rfl, Nat.le_of_ble_eq_true rfl⟩, Nat.le_of_ble_eq_true rfl, Nat.le_of_ble_eq_true rfl⟩ hP hD hS hA ⟨rfl, rfl⟩ rfl [0, 1, 2, 3, 4, 5, 6, 7, 8, 9, 10, 11, 12, 13, 14] [] rfl rfl rfl (by decide) (by decide) hl.1 rfl (Nat.le_of_ble_eq_true rfl) rfl rfl rfl dX9_about_108 (fun H locs hP hD hS => ?_)
          have hP : va_P (dC, dI) vwCl (wMod a0 cy m0_95) H := hP
          have hD : va_D A (wMod a0 cy m0_95) := hD
          refine lv_iadd hx hb dX9_about_111 ?_
          refine lv_istore_n (lv' := [(2, .int (l2_95 + v108)), (3, .int l3_95), (0, .ref (a0 0))]) hx hb dX9_about_112 rfl hl (by decide) rfl (fun ls hl => ?_)
          refine lv_iinc (v := l3_95 + 1) (lv' := [(3, .int (l3_95 + 1)), (2, .int (l2_95 + v108)), (0, .ref (a0 0))]) hx hb dX9_about_113 hl (k := 1) rfl rfl (by decide) rfl (fun ls hl => ?_)
          refine lv_goto (tgt := 95) hx hb dX9_about_116 (by decide) ?_
          exact ih95 m0_95 (l3_95 + 1) (l2_95 + v108) H locs ls h hP hD hS (lv_sub hl [0, 1, 2] rfl)
      exact hL95 FU (ms_thrown m0 b8) 0 0 H locs ls h hP hD hS (lv_sub hl [0, 1, 2] rfl)
    replace h := if_f h c22_3
    by_cases c22_4 : p1 = 4
    · replace h := if_t h c22_4
      refine lv_tableIn (tgt := 121) (off := 99) hx hb dX9_about_22 (by rw [c22_4]; decide) (by rw [c22_4]; decide) (by rw [c22_4]; rfl) (by decide) ?_
      refine lv_aload_n hx hb dX9_about_121 rfl (lv_at hl 1 rfl) ?_
      obtain ⟨v122, e122, h⟩ := bnd h
      refine cV (av := []) (rest := []) (st1 := [.int v122]) (k1 := 0) (k2 := 0) (ci := 4) (q0 := 0) hx hb hml hown htg hN hK (c_X9_inside l dC dI cy a0 (ms_thrown m0 b8)  v122 e122) (g_V gw1026 gw1028 gw27 gw63 gw1029) hdV_X9_inside rfl ⟨⟨Nat.le_of_ble_eq_true rfl, Nat.le_of_ble_eq_true rfl⟩, Nat.le_of_ble_eq_true rfl, Nat.le_of_ble_eq_true rfl⟩ hP hD hS hA ⟨rfl, rfl⟩ rfl [0, 1, 2, 3, 4, 5, 6, 7, 8, 9, 10, 11, 12, 13, 14] [] rfl rfl rfl (by decide) (by decide) hl.1 rfl (Nat.le_of_ble_eq_true rfl) rfl rfl rfl dX9_about_122 (fun H locs hP hD hS => ?_)
      have hP : va_P (dC, dI) vwCl (wMod a0 cy (ms_thrown m0 b8)) H := hP
      have hD : va_D A (wMod a0 cy (ms_thrown m0 b8)) := hD
      obtain rfl := Option.some.inj h
      exact hE H locs 125 ls _ hP hD hS rfl dX9_about_125
    replace h := if_f h c22_4
    by_cases c22_5 : p1 = 5
    · replace h := if_t h c22_5
      refine lv_tableIn (tgt := 126) (off := 104) hx hb dX9_about_22 (by rw [c22_5]; decide) (by rw [c22_5]; decide) (by rw [c22_5]; rfl) (by decide) ?_
      refine lv_aload_n hx hb dX9_about_126 rfl (lv_at hl 1 rfl) ?_
      refine lv_iconst (v := 1) hx hb dX9_about_127 (by decide) ?_
      obtain ⟨v128, e128, h⟩ := bnd h
      refine cV (av := [.int 1]) (rest := []) (st1 := [.int v128]) (k1 := 0) (k2 := 0) (ci := 4) (q0 := 0) hx hb hml hown htg hN hK (c_X9_kindsOf l dC dI cy a0 (ms_thrown m0 b8) 1 v128 e128) (g_V gw1042 gw1044 gw31 gw63 gw1045) hdV_X9_kindsOf rfl ⟨⟨Nat.le_of_ble_eq_true rfl, Nat.le_of_ble_eq_true rfl⟩, Nat.le_of_ble_eq_true rfl, Nat.le_of_ble_eq_true rfl⟩ hP hD hS hA ⟨rfl, rfl⟩ rfl [0, 1, 2, 3, 4, 5, 6, 7, 8, 9, 10, 11, 12, 13, 14] [] rfl rfl rfl (by decide) (by decide) hl.1 rfl (Nat.le_of_ble_eq_true rfl) rfl rfl rfl dX9_about_128 (fun H locs hP hD hS => ?_)
      have hP : va_P (dC, dI) vwCl (wMod a0 cy (ms_thrown m0 b8)) H := hP
      have hD : va_D A (wMod a0 cy (ms_thrown m0 b8)) := hD
      obtain rfl := Option.some.inj h
      exact hE H locs 131 ls _ hP hD hS rfl dX9_about_131
    replace h := if_f h c22_5
    by_cases c22_6 : p1 = 6
    · replace h := if_t h c22_6
      refine lv_tableIn (tgt := 132) (off := 110) hx hb dX9_about_22 (by rw [c22_6]; decide) (by rw [c22_6]; decide) (by rw [c22_6]; rfl) (by decide) ?_
      refine lv_aload_n hx hb dX9_about_132 rfl (lv_at hl 1 rfl) ?_
      refine lv_iconst (v := (-1)) hx hb dX9_about_133 (by decide) ?_
      obtain ⟨v134, e134, h⟩ := bnd h
      refine cV (av := [.int (-1)]) (rest := []) (st1 := [.int v134]) (k1 := 0) (k2 := 0) (ci := 4) (q0 := 0) hx hb hml hown htg hN hK (c_X9_kindsOf l dC dI cy a0 (ms_thrown m0 b8) (-1) v134 e134) (g_V gw1042 gw1044 gw31 gw63 gw1045) hdV_X9_kindsOf rfl ⟨⟨Nat.le_of_ble_eq_true rfl, Nat.le_of_ble_eq_true rfl⟩, Nat.le_of_ble_eq_true rfl, Nat.le_of_ble_eq_true rfl⟩ hP hD hS hA ⟨rfl, rfl⟩ rfl [0, 1, 2, 3, 4, 5, 6, 7, 8, 9, 10, 11, 12, 13, 14] [] rfl rfl rfl (by decide) (by decide) hl.1 rfl (Nat.le_of_ble_eq_true rfl) rfl rfl rfl dX9_about_134 (fun H locs hP hD hS => ?_)
      have hP : va_P (dC, dI) vwCl (wMod a0 cy (ms_thrown m0 b8)) H := hP
      have hD : va_D A (wMod a0 cy (ms_thrown m0 b8)) := hD
      obtain rfl := Option.some.inj h
      exact hE H locs 137 ls _ hP hD hS rfl dX9_about_137
    replace h := if_f h c22_6
    by_cases c22_7 : p1 = 7
    · replace h := if_t h c22_7
      refine lv_tableIn (tgt := 138) (off := 116) hx hb dX9_about_22 (by rw [c22_7]; decide) (by rw [c22_7]; decide) (by rw [c22_7]; rfl) (by decide) ?_
      refine lv_iconst (v := 0) hx hb dX9_about_138 (by decide) ?_
      refine lv_istore_n (lv' := [(3, .int 0), (2, .int 0), (0, .ref (a0 0)), (1, .int p1)]) hx hb dX9_about_139 rfl hl (by decide) rfl (fun ls hl => ?_)
      have hL140 : ∀ (n140 : Nat) (m0_140 : Mod) (l3_140 : Int32) (l2_140 : Int32) (H : Heap) (locs : List Loc) (ls : Array Slot), G_X9_about_L140 n140 m0_140 l3_140 l2_140 = some res → va_P (dC, dI) vwCl (wMod a0 cy m0_140) H → va_D A (wMod a0 cy m0_140) → va_S A s.heap H locs → lv_has ls 5 [(3, .int l3_140), (2, .int l2_140), (0, .ref (a0 0))] → W p l e rm_X9_about s mm args below meth cd H locs 0 0 Q (F0 mm 140 ls []) := by
        intro n140
        induction n140 with
        | zero => intro m0_140 l3_140 l2_140 H locs ls h; exact absurd h (by simp [G_X9_about_L140])
        | succ n140 ih140 =>
          intro m0_140 l3_140 l2_140 H locs ls h hP hD hS hl
          rw [G_X9_about_L140] at h
          refine lv_iload_n hx hb dX9_about_140 rfl (lv_at hl 0 rfl) ?_
          refine lv_aload_n hx hb dX9_about_141 rfl (lv_at hl 2 rfl) ?_
          refine lv_iconst (v := 0) hx hb dX9_about_142 (by decide) ?_
          obtain ⟨v143, e143, h⟩ := bnd h
          refine cV (av := [.int 0]) (rest := [.int l3_140]) (st1 := [.int v143, .int l3_140]) (k1 := 0) (k2 := 0) (ci := 4) (q0 := 0) hx hb hml hown htg hN hK (c_X9_many l dC dI cy a0 m0_140 0 v143 e143) (g_V gw935 gw937 gw10 gw63 gw938) hdV_X9_many rfl ⟨⟨Nat.le_of_ble_eq_true rfl, Nat.le_of_ble_eq_true rfl⟩, Nat.le_of_ble_eq_true rfl, Nat.le_of_ble_eq_true rfl⟩ hP hD hS hA ⟨rfl, rfl⟩ rfl [0, 1, 2, 3, 4, 5, 6, 7, 8, 9, 10, 11, 12, 13, 14] [] rfl rfl rfl (by decide) (by decide) hl.1 rfl (Nat.le_of_ble_eq_true rfl) rfl rfl rfl dX9_about_143 (fun H locs hP hD hS => ?_)
          have hP : va_P (dC, dI) vwCl (wMod a0 cy m0_140) H := hP
          have hD : va_D A (wMod a0 cy m0_140) := hD
          refine lv_icmp_ge (tgt := 171) hx hb dX9_about_146 (by decide) (fun c146 => ?_) (fun c146 => ?_)
          · replace h := if_t h c146
            refine lv_iload_n hx hb dX9_about_171 rfl (lv_at hl 1 rfl) ?_
            obtain rfl := Option.some.inj h
            exact hE H locs 172 ls _ hP hD hS rfl dX9_about_172
          replace h := if_f h c146
          refine lv_iload_n hx hb dX9_about_149 rfl (lv_at hl 1 rfl) ?_
          refine lv_aload_n hx hb dX9_about_150 rfl (lv_at hl 2 rfl) ?_
          refine lv_iload_n hx hb dX9_about_151 rfl (lv_at hl 0 rfl) ?_
          obtain ⟨v152, e152, h⟩ := bnd h
          refine cV (av := [.int l3_140]) (rest := [.int l2_140]) (st1 := [.int v152.1, .int l2_140]) (k1 := 0) (k2 := 0) (ci := 4) (q0 := 0) hx hb hml hown htg hN hK (c_X9_isEar l dC dI cy a0 m0_140 l3_140 v152 e152) (g_V gw1058 gw1060 gw35 gw63 gw1061) hdV_X9_isEar rfl ⟨⟨Nat.le_of_ble_eq_true rfl, Nat.le_of_ble_eq_true rfl⟩, Nat.le_of_ble_eq_true rfl, Nat.le_of_ble_eq_true rfl⟩ hP hD hS hA ⟨rfl, rfl⟩ rfl [0, 1, 2, 3, 4, 5, 6, 7, 8, 9, 10, 11, 12, 13, 14] [] rfl rfl rfl (by decide) (by decide) hl.1 rfl (Nat.le_of_ble_eq_true rfl) rfl rfl rfl dX9_about_152 (fun H locs hP hD hS => ?_)
          have hP : va_P (dC, dI) vwCl (wMod a0 cy v152.2) H := hP
          have hD : va_D A (wMod a0 cy v152.2) := hD
          obtain ⟨b155, e155, h⟩ := bnd h
          have hr163 : ∀ (H : Heap) (locs : List Loc) (ls : Array Slot), va_P (dC, dI) vwCl (wMod a0 cy v152.2) H → va_D A (wMod a0 cy v152.2) → va_S A s.heap H locs → lv_has ls 5 [(3, .int l3_140), (2, .int l2_140), (0, .ref (a0 0))] → W p l e rm_X9_about s mm args below meth cd H locs 0 0 Q (F0 mm 163 ls [.int b155, .int l2_140]) := by
            intro H locs ls hP hD hS hl
            refine lv_iadd hx hb dX9_about_163 ?_
            refine lv_istore_n (lv' := [(2, .int (l2_140 + b155)), (3, .int l3_140), (0, .ref (a0 0))]) hx hb dX9_about_164 rfl hl (by decide) rfl (fun ls hl => ?_)
            refine lv_iinc (v := l3_140 + 1) (lv' := [(3, .int (l3_140 + 1)), (2, .int (l2_140 + b155)), (0, .ref (a0 0))]) hx hb dX9_about_165 hl (k := 1) rfl rfl (by decide) rfl (fun ls hl => ?_)
            refine lv_goto (tgt := 140) hx hb dX9_about_168 (by decide) ?_
            exact ih140 v152.2 (l3_140 + 1) (l2_140 + b155) H locs ls h hP hD hS (lv_sub hl [0, 1, 2] rfl)
          have h := e155
          clear e155
          refine lv_if_eq (tgt := 162) hx hb dX9_about_155 (by decide) (fun c155 => ?_) (fun c155 => ?_)
          · replace h := if_t h c155
            refine lv_iconst (v := 0) hx hb dX9_about_162 (by decide) ?_
            obtain rfl := Option.some.inj h
            exact hr163 H locs ls hP hD hS hl
          replace h := if_f h c155
          refine lv_iconst (v := 1) hx hb dX9_about_158 (by decide) ?_
          refine lv_goto (tgt := 163) hx hb dX9_about_159 (by decide) ?_
          obtain rfl := Option.some.inj h
          exact hr163 H locs ls hP hD hS hl
      exact hL140 FU (ms_thrown m0 b8) 0 0 H locs ls h hP hD hS (lv_sub hl [0, 1, 2] rfl)
    replace h := if_f h c22_7
    by_cases c22_8 : p1 = 8
    · replace h := if_t h c22_8
      refine lv_tableIn (tgt := 173) (off := 151) hx hb dX9_about_22 (by rw [c22_8]; decide) (by rw [c22_8]; decide) (by rw [c22_8]; rfl) (by decide) ?_
      refine lv_aload_n hx hb dX9_about_173 rfl (lv_at hl 1 rfl) ?_
      obtain ⟨v174, e174, h⟩ := bnd h
      refine cV (av := []) (rest := []) (st1 := [.int v174]) (k1 := 0) (k2 := 0) (ci := 4) (q0 := 0) hx hb hml hown htg hN hK (c_X9_hull l dC dI cy a0 (ms_thrown m0 b8)  v174 e174) (g_V gw1070 gw1072 gw38 gw63 gw1073) hdV_X9_hull rfl ⟨⟨Nat.le_of_ble_eq_true rfl, Nat.le_of_ble_eq_true rfl⟩, Nat.le_of_ble_eq_true rfl, Nat.le_of_ble_eq_true rfl⟩ hP hD hS hA ⟨rfl, rfl⟩ rfl [0, 1, 2, 3, 4, 5, 6, 7, 8, 9, 10, 11, 12, 13, 14] [] rfl rfl rfl (by decide) (by decide) hl.1 rfl (Nat.le_of_ble_eq_true rfl) rfl rfl rfl dX9_about_174 (fun H locs hP hD hS => ?_)
      have hP : va_P (dC, dI) vwCl (wMod a0 cy (ms_thrown m0 b8)) H := hP
      have hD : va_D A (wMod a0 cy (ms_thrown m0 b8)) := hD
      obtain rfl := Option.some.inj h
      exact hE H locs 177 ls _ hP hD hS rfl dX9_about_177
    replace h := if_f h c22_8
    by_cases c22_9 : p1 = 9
    · replace h := if_t h c22_9
      refine lv_tableIn (tgt := 178) (off := 156) hx hb dX9_about_22 (by rw [c22_9]; decide) (by rw [c22_9]; decide) (by rw [c22_9]; rfl) (by decide) ?_
      refine lv_iconst (v := 0) hx hb dX9_about_178 (by decide) ?_
      refine lv_istore_n (lv' := [(3, .int 0), (2, .int 0), (0, .ref (a0 0)), (1, .int p1)]) hx hb dX9_about_179 rfl hl (by decide) rfl (fun ls hl => ?_)
      have hL180 : ∀ (n180 : Nat) (m0_180 : Mod) (l3_180 : Int32) (l2_180 : Int32) (H : Heap) (locs : List Loc) (ls : Array Slot), G_X9_about_L180 n180 m0_180 l3_180 l2_180 = some res → va_P (dC, dI) vwCl (wMod a0 cy m0_180) H → va_D A (wMod a0 cy m0_180) → va_S A s.heap H locs → lv_has ls 5 [(3, .int l3_180), (2, .int l2_180), (0, .ref (a0 0))] → W p l e rm_X9_about s mm args below meth cd H locs 0 0 Q (F0 mm 180 ls []) := by
        intro n180
        induction n180 with
        | zero => intro m0_180 l3_180 l2_180 H locs ls h; exact absurd h (by simp [G_X9_about_L180])
        | succ n180 ih180 =>
          intro m0_180 l3_180 l2_180 H locs ls h hP hD hS hl
          rw [G_X9_about_L180] at h
          refine lv_iload_n hx hb dX9_about_180 rfl (lv_at hl 0 rfl) ?_
          refine lv_aload_n hx hb dX9_about_181 rfl (lv_at hl 2 rfl) ?_
          refine va_get (D := (dC, dI)) (ci := 4) (v := .ref (a0 1)) (C := RX9) (T := TX9) (N := 18) hx hb htg inX9 hown hK hP 0 rfl rfl 1 (by decide) (htg _ gw851) (fun _ h9 => h9) rfl dX9_about_182 ?_
          refine lv_iconst (v := 0) hx hb dX9_about_185 (by decide) ?_
          obtain ⟨v186, e186, h⟩ := bnd h
          refine x_iald (v := v186) hx hb hK hP 1 0 rfl rfl e186 dX9_about_186 ?_
          refine lv_icmp_ge (tgt := 225) hx hb dX9_about_187 (by decide) (fun c187 => ?_) (fun c187 => ?_)
          · replace h := if_t h c187
            refine lv_iload_n hx hb dX9_about_225 rfl (lv_at hl 1 rfl) ?_
            refine lv_iconst (v := 2) hx hb dX9_about_226 (by decide) ?_
            refine lv_idiv hx hb dX9_about_227 (by decide) ?_
            obtain rfl := Option.some.inj h
            exact hE H locs 228 ls _ hP hD hS rfl dX9_about_228
          replace h := if_f h c187
          refine lv_iconst (v := 0) hx hb dX9_about_190 (by decide) ?_
          refine lv_istore (lv' := [(4, .int 0), (3, .int l3_180), (2, .int l2_180), (0, .ref (a0 0))]) hx hb dX9_about_191 hl (by decide) rfl (fun ls hl => ?_)
          have hL193 : ∀ (n193 : Nat) (m0_193 : Mod) (l4_193 : Int32) (l3_193 : Int32) (l2_193 : Int32) (H : Heap) (locs : List Loc) (ls : Array Slot), G_X9_about_L193 (G_X9_about_L180 n180) n193 m0_193 l4_193 l3_193 l2_193 = some res → va_P (dC, dI) vwCl (wMod a0 cy m0_193) H → va_D A (wMod a0 cy m0_193) → va_S A s.heap H locs → lv_has ls 5 [(4, .int l4_193), (3, .int l3_193), (2, .int l2_193), (0, .ref (a0 0))] → W p l e rm_X9_about s mm args below meth cd H locs 0 0 Q (F0 mm 193 ls []) := by
            intro n193
            induction n193 with
            | zero => intro m0_193 l4_193 l3_193 l2_193 H locs ls h; exact absurd h (by simp [G_X9_about_L193])
            | succ n193 ih193 =>
              intro m0_193 l4_193 l3_193 l2_193 H locs ls h hP hD hS hl
              rw [G_X9_about_L193] at h
              refine lv_iload hx hb dX9_about_193 (lv_at hl 0 rfl) ?_
              refine lv_aload_n hx hb dX9_about_195 rfl (lv_at hl 3 rfl) ?_
              refine lv_iload_n hx hb dX9_about_196 rfl (lv_at hl 1 rfl) ?_
              obtain ⟨v197, e197, h⟩ := bnd h
              refine cV (av := [.int l3_193]) (rest := [.int l4_193]) (st1 := [.int v197, .int l4_193]) (k1 := 0) (k2 := 0) (ci := 4) (q0 := 0) hx hb hml hown htg hN hK (c_X9_many l dC dI cy a0 m0_193 l3_193 v197 e197) (g_V gw935 gw937 gw10 gw63 gw938) hdV_X9_many rfl ⟨⟨Nat.le_of_ble_eq_true rfl, Nat.le_of_ble_eq_true rfl⟩, Nat.le_of_ble_eq_true rfl, Nat.le_of_ble_eq_true rfl⟩ hP hD hS hA ⟨rfl, rfl⟩ rfl [0, 1, 2, 3, 4, 5, 6, 7, 8, 9, 10, 11, 12, 13, 14] [] rfl rfl rfl (by decide) (by decide) hl.1 rfl (Nat.le_of_ble_eq_true rfl) rfl rfl rfl dX9_about_197 (fun H locs hP hD hS => ?_)
              have hP : va_P (dC, dI) vwCl (wMod a0 cy m0_193) H := hP
              have hD : va_D A (wMod a0 cy m0_193) := hD
              refine lv_icmp_ge (tgt := 219) hx hb dX9_about_200 (by decide) (fun c200 => ?_) (fun c200 => ?_)
              · replace h := if_t h c200
                refine lv_iinc (v := l3_193 + 1) (lv' := [(3, .int (l3_193 + 1)), (4, .int l4_193), (2, .int l2_193), (0, .ref (a0 0))]) hx hb dX9_about_219 hl (k := 1) rfl rfl (by decide) rfl (fun ls hl => ?_)
                refine lv_goto (tgt := 180) hx hb dX9_about_222 (by decide) ?_
                exact ih180 m0_193 (l3_193 + 1) l2_193 H locs ls h hP hD hS (lv_sub hl [0, 2, 3] rfl)
              replace h := if_f h c200
              refine lv_iload_n hx hb dX9_about_203 rfl (lv_at hl 2 rfl) ?_
              refine lv_aload_n hx hb dX9_about_204 rfl (lv_at hl 3 rfl) ?_
              refine lv_iload_n hx hb dX9_about_205 rfl (lv_at hl 1 rfl) ?_
              refine lv_iload hx hb dX9_about_206 (lv_at hl 0 rfl) ?_
              obtain ⟨v208, e208, h⟩ := bnd h
              refine cV (av := [.int l3_193, .int l4_193]) (rest := [.int l2_193]) (st1 := [.int v208.1, .int l2_193]) (k1 := 0) (k2 := 0) (ci := 4) (q0 := 0) hx hb hml hown htg hN hK (c_X9_seenBy l dC dI cy a0 m0_193 l3_193 l4_193 v208 e208) (g_V gw1078 gw1080 gw40 gw63 gw1081) hdV_X9_seenBy rfl ⟨⟨Nat.le_of_ble_eq_true rfl, Nat.le_of_ble_eq_true rfl⟩, Nat.le_of_ble_eq_true rfl, Nat.le_of_ble_eq_true rfl⟩ hP hD hS hA ⟨rfl, rfl⟩ rfl [0, 1, 2, 3, 4, 5, 6, 7, 8, 9, 10, 11, 12, 13, 14] [] rfl rfl rfl (by decide) (by decide) hl.1 rfl (Nat.le_of_ble_eq_true rfl) rfl rfl rfl dX9_about_208 (fun H locs hP hD hS => ?_)
              have hP : va_P (dC, dI) vwCl (wMod a0 cy v208.2) H := hP
              have hD : va_D A (wMod a0 cy v208.2) := hD
              refine lv_iadd hx hb dX9_about_211 ?_
              refine lv_istore_n (lv' := [(2, .int (l2_193 + v208.1)), (4, .int l4_193), (3, .int l3_193), (0, .ref (a0 0))]) hx hb dX9_about_212 rfl hl (by decide) rfl (fun ls hl => ?_)
              refine lv_iinc (v := l4_193 + 1) (lv' := [(4, .int (l4_193 + 1)), (2, .int (l2_193 + v208.1)), (3, .int l3_193), (0, .ref (a0 0))]) hx hb dX9_about_213 hl (k := 1) rfl rfl (by decide) rfl (fun ls hl => ?_)
              refine lv_goto (tgt := 193) hx hb dX9_about_216 (by decide) ?_
              exact ih193 v208.2 (l4_193 + 1) l3_193 (l2_193 + v208.1) H locs ls h hP hD hS (lv_sub hl [0, 2, 1, 3] rfl)
          exact hL193 FU m0_180 0 l3_180 l2_180 H locs ls h hP hD hS (lv_sub hl [0, 1, 2, 3] rfl)
      exact hL180 FU (ms_thrown m0 b8) 0 0 H locs ls h hP hD hS (lv_sub hl [0, 1, 2] rfl)
    replace h := if_f h c22_9
    refine lv_tableOut (tgt := 229) hx hb dX9_about_22 (x_tout0_9 c22_0 c22_1 c22_2 c22_3 c22_4 c22_5 c22_6 c22_7 c22_8 c22_9) (by decide) ?_
    refine lv_iconst (v := 0) hx hb dX9_about_229 (by decide) ?_
    obtain rfl := Option.some.inj h
    exact hE H locs 230 ls _ hP hD hS rfl dX9_about_230
  have h := e8
  clear e8
  refine lv_if_eq (tgt := 15) hx hb dX9_about_8 (by decide) (fun c8 => ?_) (fun c8 => ?_)
  · replace h := if_t h c8
    refine lv_iconst (v := 1) hx hb dX9_about_15 (by decide) ?_
    obtain rfl := Option.some.inj h
    exact hr16 H locs ls hP hD hS hl
  replace h := if_f h c8
  refine lv_iconst (v := 0) hx hb dX9_about_11 (by decide) ?_
  refine lv_goto (tgt := 16) hx hb dX9_about_12 (by decide) ?_
  obtain rfl := Option.some.inj h
  exact hr16 H locs ls hP hD hS hl
def G_X9_copy_L3  (n0 : Nat) (n1 : Nat) (w0 : Nat → Int32) : Nat → (Nat → Int32) → Int32 → Int32 → Int32 → Option ((Nat → Int32))
  | 0, _, _, _, _ => none
  | n3 + 1, w1_3, l4_3, l1_3, l3_3 =>
    if 85 ≤ l4_3 then
      some w1_3
    else
      (rd n0 w0 (l1_3 + l4_3)).bind fun v20 =>
      (wr n1 w1_3 (l3_3 + l4_3) v20).bind fun g21 =>
      (G_X9_copy_L3 n0 n1 w0 n3) g21 (l4_3 + 1) l1_3 l3_3
def G_X9_copy (n0 : Nat) (n1 : Nat) (w0 : Nat → Int32) (w1 : Nat → Int32) (p1 : Int32) (p3 : Int32) : Option ((Nat → Int32)) :=
  G_X9_copy_L3 n0 n1 w0 FU w1 0 p1 p3
abbrev rm_X9_copy : Room := { frames := 0, cells := 0, slots := 0, locals := 0 }
theorem hdS_X9_copy : yX9_copy.cls ≠ "java/lang/invoke/MethodHandle" ∧ yX9_copy.cls ≠ "java/lang/invoke/VarHandle" ∧ (parseMethodDescriptor yX9_copy.desc).map (fun d => d.parameters.length) = some 4 := by decide +kernel
set_option maxHeartbeats 4000000 in
set_option maxRecDepth 100000 in
theorem c_X9_copy (l : Launch) (dC : Nat → ClassId) (dI : Nat → Nat → Nat) (cy : Nat → ClassId) (a0 : Nat) (a1 : Nat) (n0 : Nat) (n1 : Nat) (w0 : Nat → Int32) (w1 : Nat → Int32) (p1 : Int32) (p3 : Int32) (res : (Nat → Int32)) (h : G_X9_copy n0 n1 w0 w1 p1 p3 = some res) : CT l (dC, dI) (TY cy) yX9_copy cX9_copy 5 none rm_X9_copy [.ref a0, .int p1, .ref a1, .int p3] (wIA a0 cy n0 w0 ++ wIA a1 cy n1 w1) (wIA a0 cy n0 w0 ++ wIA a1 cy n1 res) none := by
  refine CT.mk_v (own := RX9) ⟨by decide, rfl⟩ (Nat.le_of_ble_eq_true rfl) ?_
  intro p e s mm args below meth cd A Q hx hb hml hown htg hN hK hA hP hD hS hE ls hl
  have hl : lv_has ls 5 [(0, .ref a0), (1, .int p1), (2, .ref a1), (3, .int p3)] := hl
  replace h : _ = some res := h
  unfold G_X9_copy at h
  obtain ⟨H, hH⟩ : ∃ H, H = s.heap := ⟨_, rfl⟩
  obtain ⟨locs, hlocs⟩ : ∃ locs : List Loc, locs = [] := ⟨_, rfl⟩
  rw [← hlocs] at hS ⊢
  have hS : va_S A s.heap H locs := by rw [hH]; exact hS
  rw [← hH] at hP ⊢
  refine lv_iconst (v := 0) hx hb dX9_copy_0 (by decide) ?_
  refine lv_istore (lv' := [(4, .int 0), (0, .ref a0), (1, .int p1), (2, .ref a1), (3, .int p3)]) hx hb dX9_copy_1 hl (by decide) rfl (fun ls hl => ?_)
  have hL3 : ∀ (n3 : Nat) (w1_3 : Nat → Int32) (l4_3 : Int32) (l1_3 : Int32) (l3_3 : Int32) (H : Heap) (locs : List Loc) (ls : Array Slot), G_X9_copy_L3 n0 n1 w0 n3 w1_3 l4_3 l1_3 l3_3 = some res → va_P (dC, dI) vwCl (wIA a0 cy n0 w0 ++ wIA a1 cy n1 w1_3) H → va_D A (wIA a0 cy n0 w0 ++ wIA a1 cy n1 w1_3) → va_S A s.heap H locs → lv_has ls 5 [(4, .int l4_3), (0, .ref a0), (1, .int l1_3), (2, .ref a1), (3, .int l3_3)] → W p l e rm_X9_copy s mm args below meth cd H locs 0 0 Q (F0 mm 3 ls []) := by
    intro n3
    induction n3 with
    | zero => intro w1_3 l4_3 l1_3 l3_3 H locs ls h; exact absurd h (by simp [G_X9_copy_L3])
    | succ n3 ih3 =>
      intro w1_3 l4_3 l1_3 l3_3 H locs ls h hP hD hS hl
      rw [G_X9_copy_L3] at h
      refine lv_iload hx hb dX9_copy_3 (lv_at hl 0 rfl) ?_
      refine lv_bipush (v := 85) hx hb dX9_copy_5 (by decide) ?_
      refine lv_icmp_ge (tgt := 28) hx hb dX9_copy_7 (by decide) (fun c7 => ?_) (fun c7 => ?_)
      · replace h := if_t h c7
        obtain rfl := Option.some.inj h
        exact hE H locs 28 ls hP hD hS dX9_copy_28
      replace h := if_f h c7
      refine lv_aload_n hx hb dX9_copy_10 rfl (lv_at hl 3 rfl) ?_
      refine lv_iload_n hx hb dX9_copy_11 rfl (lv_at hl 4 rfl) ?_
      refine lv_iload hx hb dX9_copy_12 (lv_at hl 0 rfl) ?_
      refine lv_iadd hx hb dX9_copy_14 ?_
      refine lv_aload_n hx hb dX9_copy_15 rfl (lv_at hl 1 rfl) ?_
      refine lv_iload_n hx hb dX9_copy_16 rfl (lv_at hl 2 rfl) ?_
      refine lv_iload hx hb dX9_copy_17 (lv_at hl 0 rfl) ?_
      refine lv_iadd hx hb dX9_copy_19 ?_
      obtain ⟨v20, e20, h⟩ := bnd h
      refine x_iald (v := v20) hx hb hK hP 0 0 rfl rfl e20 dX9_copy_20 ?_
      obtain ⟨g21, e21, h⟩ := bnd h
      refine x_iast (g := g21) hx hb hK hP hD hS 1 0 rfl rfl e21 dX9_copy_21 (fun H locs hP hD hS => ?_)
      have hP : va_P (dC, dI) vwCl (wIA a0 cy n0 w0 ++ wIA a1 cy n1 g21) H := hP
      have hD : va_D A (wIA a0 cy n0 w0 ++ wIA a1 cy n1 g21) := hD
      refine lv_iinc (v := l4_3 + 1) (lv' := [(4, .int (l4_3 + 1)), (0, .ref a0), (1, .int l1_3), (2, .ref a1), (3, .int l3_3)]) hx hb dX9_copy_22 hl (k := 0) rfl rfl (by decide) rfl (fun ls hl => ?_)
      refine lv_goto (tgt := 3) hx hb dX9_copy_25 (by decide) ?_
      exact ih3 g21 (l4_3 + 1) l1_3 l3_3 H locs ls h hP hD hS (lv_sub hl [0, 1, 2, 3, 4] rfl)
  exact hL3 FU w1 0 p1 p3 H locs ls h hP hD hS (lv_sub hl [0, 1, 2, 3, 4] rfl)
def G_X9_begin (m0 : Mod) : Option (Mod) :=
  (G_X9_copy 85 85 (m_state m0) (m_kept m0) 0 0).bind fun v10 =>
  some (ms_kept m0 v10)
abbrev rm_X9_begin : Room := { frames := 1, cells := 0, slots := 0, locals := 24 }
theorem hdS_X9_begin : yX9_begin.cls ≠ "java/lang/invoke/MethodHandle" ∧ yX9_begin.cls ≠ "java/lang/invoke/VarHandle" ∧ (parseMethodDescriptor yX9_begin.desc).map (fun d => d.parameters.length) = some 0 := by decide +kernel
theorem hdV_X9_begin : yX9_begin.cls = RX9 ∧ yX9_begin.cls ≠ "java/lang/invoke/MethodHandle" ∧ yX9_begin.cls ≠ "java/lang/invoke/VarHandle" ∧ (parseMethodDescriptor yX9_begin.desc).map (fun d => d.parameters.length) = some 0 := ⟨rfl, hdS_X9_begin⟩
set_option maxHeartbeats 4000000 in
set_option maxRecDepth 100000 in
theorem c_X9_begin (l : Launch) (dC : Nat → ClassId) (dI : Nat → Nat → Nat) (cy : Nat → ClassId) (a0 : Nat → Nat) (m0 : Mod) (res : Mod) (h : G_X9_begin m0 = some res) : CT l (dC, dI) (TY cy) yX9_begin cX9_begin 1 none rm_X9_begin [.ref (a0 0)] (wMod a0 cy m0) (wMod a0 cy res) none := by
  refine CT.mk_v (own := RX9) ⟨by decide, rfl⟩ (Nat.le_of_ble_eq_true rfl) ?_
  intro p e s mm args below meth cd A Q hx hb hml hown htg hN hK hA hP hD hS hE ls hl
  have hl : lv_has ls 1 [(0, .ref (a0 0))] := hl
  replace h : _ = some res := h
  unfold G_X9_begin at h
  obtain ⟨H, hH⟩ : ∃ H, H = s.heap := ⟨_, rfl⟩
  obtain ⟨locs, hlocs⟩ : ∃ locs : List Loc, locs = [] := ⟨_, rfl⟩
  rw [← hlocs] at hS ⊢
  have hS : va_S A s.heap H locs := by rw [hH]; exact hS
  rw [← hH] at hP ⊢
  refine lv_aload_n hx hb dX9_begin_0 rfl (lv_at hl 0 rfl) ?_
  refine va_get (D := (dC, dI)) (ci := 4) (v := .ref (a0 1)) (C := RX9) (T := TX9) (N := 18) hx hb htg inX9 hown hK hP 0 rfl rfl 1 (by decide) (htg _ gw851) (fun _ h9 => h9) rfl dX9_begin_1 ?_
  refine lv_iconst (v := 0) hx hb dX9_begin_4 (by decide) ?_
  refine lv_aload_n hx hb dX9_begin_5 rfl (lv_at hl 0 rfl) ?_
  refine va_get (D := (dC, dI)) (ci := 4) (v := .ref (a0 2)) (C := RX9) (T := TX9) (N := 18) hx hb htg inX9 hown hK hP 0 rfl rfl 2 (by decide) (htg _ gw852) (fun _ h9 => h9) rfl dX9_begin_6 ?_
  refine lv_iconst (v := 0) hx hb dX9_begin_9 (by decide) ?_
  obtain ⟨v10, e10, h⟩ := bnd h
  refine cS (av := [.ref (a0 1), .int 0, .ref (a0 2), .int 0]) (rest := []) (st1 := []) (k1 := 0) (k2 := 0) hx hb hml hown htg hN hK (c_X9_copy l dC dI cy (a0 1) (a0 2) 85 85 (m_state m0) (m_kept m0) 0 0 v10 e10) (g_S gw924 gw925 gw63 gw926) hdS_X9_copy rfl ⟨⟨Nat.le_of_ble_eq_true rfl, Nat.le_of_ble_eq_true rfl⟩, Nat.le_of_ble_eq_true rfl, Nat.le_of_ble_eq_true rfl⟩ hP hD hS hA [1, 2] [0, 3, 4, 5, 6, 7, 8, 9, 10, 11, 12, 13, 14] rfl rfl rfl (by decide) (by decide) hl.1 rfl (Nat.le_of_ble_eq_true rfl) rfl rfl rfl dX9_begin_10 (fun H locs hP hD hS => ?_)
  obtain ⟨hP, hD⟩ := x_perm (ws' := wMod a0 cy (ms_kept m0 v10)) hP hD [0, 13, 14, 1, 2, 3, 4, 5, 6, 7, 8, 9, 10, 11, 12] (by decide) rfl rfl
  obtain rfl := Option.some.inj h
  exact hE H locs 13 ls hP hD hS dX9_begin_13
def G_X9_setCorner (m0 : Mod) (p1 : Int32) (p2 : Int32) (p3 : Int32) (p4 : Int32) : Option (Mod) :=
  (wr 85 (m_state m0) ((5 + (20 * p1)) + (2 * p2)) p3).bind fun g15 =>
  (some (ms_state m0 g15)).bind fun z0_34 =>
  (wr 85 (m_state z0_34) (((5 + (20 * p1)) + (2 * p2)) + 1) p4).bind fun g34 =>
  some (ms_state z0_34 g34)
abbrev rm_X9_setCorner : Room := { frames := 0, cells := 0, slots := 0, locals := 0 }
theorem hdS_X9_setCorner : yX9_setCorner.cls ≠ "java/lang/invoke/MethodHandle" ∧ yX9_setCorner.cls ≠ "java/lang/invoke/VarHandle" ∧ (parseMethodDescriptor yX9_setCorner.desc).map (fun d => d.parameters.length) = some 4 := by decide +kernel
theorem hdV_X9_setCorner : yX9_setCorner.cls = RX9 ∧ yX9_setCorner.cls ≠ "java/lang/invoke/MethodHandle" ∧ yX9_setCorner.cls ≠ "java/lang/invoke/VarHandle" ∧ (parseMethodDescriptor yX9_setCorner.desc).map (fun d => d.parameters.length) = some 4 := ⟨rfl, hdS_X9_setCorner⟩
set_option maxHeartbeats 4000000 in
set_option maxRecDepth 100000 in
theorem c_X9_setCorner (l : Launch) (dC : Nat → ClassId) (dI : Nat → Nat → Nat) (cy : Nat → ClassId) (a0 : Nat → Nat) (m0 : Mod) (p1 : Int32) (p2 : Int32) (p3 : Int32) (p4 : Int32) (res : Mod) (h : G_X9_setCorner m0 p1 p2 p3 p4 = some res) : CT l (dC, dI) (TY cy) yX9_setCorner cX9_setCorner 5 none rm_X9_setCorner [.ref (a0 0), .int p1, .int p2, .int p3, .int p4] (wMod a0 cy m0) (wMod a0 cy res) none := by
  refine CT.mk_v (own := RX9) ⟨by decide, rfl⟩ (Nat.le_of_ble_eq_true rfl) ?_
  intro p e s mm args below meth cd A Q hx hb hml hown htg hN hK hA hP hD hS hE ls hl
  have hl : lv_has ls 5 [(0, .ref (a0 0)), (1, .int p1), (2, .int p2), (3, .int p3), (4, .int p4)] := hl
  replace h : _ = some res := h
  unfold G_X9_setCorner at h
  obtain ⟨H, hH⟩ : ∃ H, H = s.heap := ⟨_, rfl⟩
  obtain ⟨locs, hlocs⟩ : ∃ locs : List Loc, locs = [] := ⟨_, rfl⟩
  rw [← hlocs] at hS ⊢
  have hS : va_S A s.heap H locs := by rw [hH]; exact hS
  rw [← hH] at hP ⊢
  refine lv_aload_n hx hb dX9_setCorner_0 rfl (lv_at hl 0 rfl) ?_
  refine va_get (D := (dC, dI)) (ci := 4) (v := .ref (a0 1)) (C := RX9) (T := TX9) (N := 18) hx hb htg inX9 hown hK hP 0 rfl rfl 1 (by decide) (htg _ gw851) (fun _ h9 => h9) rfl dX9_setCorner_1 ?_
  refine lv_iconst (v := 5) hx hb dX9_setCorner_4 (by decide) ?_
  refine lv_bipush (v := 20) hx hb dX9_setCorner_5 (by decide) ?_
  refine lv_iload_n hx hb dX9_setCorner_7 rfl (lv_at hl 1 rfl) ?_
  refine lv_imul hx hb dX9_setCorner_8 ?_
  refine lv_iadd hx hb dX9_setCorner_9 ?_
  refine lv_iconst (v := 2) hx hb dX9_setCorner_10 (by decide) ?_
  refine lv_iload_n hx hb dX9_setCorner_11 rfl (lv_at hl 2 rfl) ?_
  refine lv_imul hx hb dX9_setCorner_12 ?_
  refine lv_iadd hx hb dX9_setCorner_13 ?_
  refine lv_iload_n hx hb dX9_setCorner_14 rfl (lv_at hl 3 rfl) ?_
  obtain ⟨g15, e15, h⟩ := bnd h
  refine x_iast (g := g15) hx hb hK hP hD hS 1 0 rfl rfl e15 dX9_setCorner_15 (fun H locs hP hD hS => ?_)
  have hP : va_P (dC, dI) vwCl (wMod a0 cy (ms_state m0 g15)) H := hP
  have hD : va_D A (wMod a0 cy (ms_state m0 g15)) := hD
  refine lv_aload_n hx hb dX9_setCorner_16 rfl (lv_at hl 0 rfl) ?_
  refine va_get (D := (dC, dI)) (ci := 4) (v := .ref (a0 1)) (C := RX9) (T := TX9) (N := 18) hx hb htg inX9 hown hK hP 0 rfl rfl 1 (by decide) (htg _ gw851) (fun _ h9 => h9) rfl dX9_setCorner_17 ?_
  refine lv_iconst (v := 5) hx hb dX9_setCorner_20 (by decide) ?_
  refine lv_bipush (v := 20) hx hb dX9_setCorner_21 (by decide) ?_
  refine lv_iload_n hx hb dX9_setCorner_23 rfl (lv_at hl 1 rfl) ?_
  refine lv_imul hx hb dX9_setCorner_24 ?_
  refine lv_iadd hx hb dX9_setCorner_25 ?_
  refine lv_iconst (v := 2) hx hb dX9_setCorner_26 (by decide) ?_
  refine lv_iload_n hx hb dX9_setCorner_27 rfl (lv_at hl 2 rfl) ?_
  refine lv_imul hx hb dX9_setCorner_28 ?_
  refine lv_iadd hx hb dX9_setCorner_29 ?_
  refine lv_iconst (v := 1) hx hb dX9_setCorner_30 (by decide) ?_
  refine lv_iadd hx hb dX9_setCorner_31 ?_
  refine lv_iload hx hb dX9_setCorner_32 (lv_at hl 4 rfl) ?_
  obtain ⟨z0_34, ez0_34, h⟩ := bnd h
  replace ez0_34 := Option.some.inj ez0_34
  rw [ez0_34] at hP hD
  obtain ⟨g34, e34, h⟩ := bnd h
  refine x_iast (g := g34) hx hb hK hP hD hS 1 0 rfl rfl e34 dX9_setCorner_34 (fun H locs hP hD hS => ?_)
  have hP : va_P (dC, dI) vwCl (wMod a0 cy (ms_state z0_34 g34)) H := hP
  have hD : va_D A (wMod a0 cy (ms_state z0_34 g34)) := hD
  obtain rfl := Option.some.inj h
  exact hE H locs 35 ls hP hD hS dX9_setCorner_35
def G_X9_isNext (m0 : Mod) (p1 : Int32) (p2 : Int32) : Option (Int32) :=
  (rd 40 (m_ringOf m0) p1).bind fun v5 =>
  (rd 40 (m_ringOf m0) p2).bind fun v11 =>
  if v5 = v11 then
    (rd 40 (m_ringOf m0) p1).bind fun v21 =>
    (rd 40 (m_cornerOf m0) p1).bind fun v27 =>
    (G_X9_next m0 v21 v27).bind fun v28 =>
    (rd 40 (m_cornerOf m0) p2).bind fun v36 =>
    if v28 = v36 then
      some 1
    else
      some 0
  else
    some 0
abbrev rm_X9_isNext : Room := { frames := 2, cells := 0, slots := 0, locals := 43 }
theorem hdS_X9_isNext : yX9_isNext.cls ≠ "java/lang/invoke/MethodHandle" ∧ yX9_isNext.cls ≠ "java/lang/invoke/VarHandle" ∧ (parseMethodDescriptor yX9_isNext.desc).map (fun d => d.parameters.length) = some 2 := by decide +kernel
theorem hdV_X9_isNext : yX9_isNext.cls = RX9 ∧ yX9_isNext.cls ≠ "java/lang/invoke/MethodHandle" ∧ yX9_isNext.cls ≠ "java/lang/invoke/VarHandle" ∧ (parseMethodDescriptor yX9_isNext.desc).map (fun d => d.parameters.length) = some 2 := ⟨rfl, hdS_X9_isNext⟩
set_option maxHeartbeats 4000000 in
set_option maxRecDepth 100000 in
theorem c_X9_isNext (l : Launch) (dC : Nat → ClassId) (dI : Nat → Nat → Nat) (cy : Nat → ClassId) (a0 : Nat → Nat) (m0 : Mod) (p1 : Int32) (p2 : Int32) (res : Int32) (h : G_X9_isNext m0 p1 p2 = some res) : CT l (dC, dI) (TY cy) yX9_isNext cX9_isNext 3 (some .boolean) rm_X9_isNext [.ref (a0 0), .int p1, .int p2] (wMod a0 cy m0) (wMod a0 cy m0) (some (.int res)) := by
  refine CT.mk_z (own := RX9) ⟨by decide, rfl⟩ (Nat.le_of_ble_eq_true rfl) ?_
  intro p e s mm args below meth cd A Q hx hb hml hown htg hN hK hA hP hD hS hE ls hl
  have hl : lv_has ls 3 [(0, .ref (a0 0)), (1, .int p1), (2, .int p2)] := hl
  replace h : _ = some res := h
  unfold G_X9_isNext at h
  obtain ⟨H, hH⟩ : ∃ H, H = s.heap := ⟨_, rfl⟩
  obtain ⟨locs, hlocs⟩ : ∃ locs : List Loc, locs = [] := ⟨_, rfl⟩
  rw [← hlocs] at hS ⊢
  have hS : va_S A s.heap H locs := by rw [hH]; exact hS
  rw [← hH] at hP ⊢
  refine lv_aload_n hx hb dX9_isNext_0 rfl (lv_at hl 0 rfl) ?_
  refine va_get (D := (dC, dI)) (ci := 4) (v := .ref (a0 8)) (C := RX9) (T := TX9) (N := 18) hx hb htg inX9 hown hK hP 0 rfl rfl 11 (by decide) (htg _ gw861) (fun _ h9 => h9) rfl dX9_isNext_1 ?_
  refine lv_iload_n hx hb dX9_isNext_4 rfl (lv_at hl 1 rfl) ?_
  obtain ⟨v5, e5, h⟩ := bnd h
  refine x_iald (v := v5) hx hb hK hP 8 0 rfl rfl e5 dX9_isNext_5 ?_
  refine lv_aload_n hx hb dX9_isNext_6 rfl (lv_at hl 0 rfl) ?_
  refine va_get (D := (dC, dI)) (ci := 4) (v := .ref (a0 8)) (C := RX9) (T := TX9) (N := 18) hx hb htg inX9 hown hK hP 0 rfl rfl 11 (by decide) (htg _ gw861) (fun _ h9 => h9) rfl dX9_isNext_7 ?_
  refine lv_iload_n hx hb dX9_isNext_10 rfl (lv_at hl 2 rfl) ?_
  obtain ⟨v11, e11, h⟩ := bnd h
  refine x_iald (v := v11) hx hb hK hP 8 0 rfl rfl e11 dX9_isNext_11 ?_
  refine lv_icmp_ne (tgt := 44) hx hb dX9_isNext_12 (by decide) (fun c12 => ?_) (fun c12 => ?_)
  · replace h := if_f h c12
    refine lv_iconst (v := 0) hx hb dX9_isNext_44 (by decide) ?_
    obtain rfl := Option.some.inj h
    exact hE H locs 45 ls _ hP hD hS rfl (Or.inl rfl) dX9_isNext_45
  replace h := if_t h c12
  refine lv_aload_n hx hb dX9_isNext_15 rfl (lv_at hl 0 rfl) ?_
  refine lv_aload_n hx hb dX9_isNext_16 rfl (lv_at hl 0 rfl) ?_
  refine va_get (D := (dC, dI)) (ci := 4) (v := .ref (a0 8)) (C := RX9) (T := TX9) (N := 18) hx hb htg inX9 hown hK hP 0 rfl rfl 11 (by decide) (htg _ gw861) (fun _ h9 => h9) rfl dX9_isNext_17 ?_
  refine lv_iload_n hx hb dX9_isNext_20 rfl (lv_at hl 1 rfl) ?_
  obtain ⟨v21, e21, h⟩ := bnd h
  refine x_iald (v := v21) hx hb hK hP 8 0 rfl rfl e21 dX9_isNext_21 ?_
  refine lv_aload_n hx hb dX9_isNext_22 rfl (lv_at hl 0 rfl) ?_
  refine va_get (D := (dC, dI)) (ci := 4) (v := .ref (a0 9)) (C := RX9) (T := TX9) (N := 18) hx hb htg inX9 hown hK hP 0 rfl rfl 12 (by decide) (htg _ gw862) (fun _ h9 => h9) rfl dX9_isNext_23 ?_
  refine lv_iload_n hx hb dX9_isNext_26 rfl (lv_at hl 1 rfl) ?_
  obtain ⟨v27, e27, h⟩ := bnd h
  refine x_iald (v := v27) hx hb hK hP 9 0 rfl rfl e27 dX9_isNext_27 ?_
  obtain ⟨v28, e28, h⟩ := bnd h
  refine cV (av := [.int v21, .int v27]) (rest := []) (st1 := [.int v28]) (k1 := 0) (k2 := 0) (ci := 4) (q0 := 0) hx hb hml hown htg hN hK (c_X9_next l dC dI cy a0 m0 v21 v27 v28 e28) (g_V gw955 gw957 gw15 gw63 gw958) hdV_X9_next rfl ⟨⟨Nat.le_of_ble_eq_true rfl, Nat.le_of_ble_eq_true rfl⟩, Nat.le_of_ble_eq_true rfl, Nat.le_of_ble_eq_true rfl⟩ hP hD hS hA ⟨rfl, rfl⟩ rfl [0, 1, 2, 3, 4, 5, 6, 7, 8, 9, 10, 11, 12, 13, 14] [] rfl rfl rfl (by decide) (by decide) hl.1 rfl (Nat.le_of_ble_eq_true rfl) rfl rfl rfl dX9_isNext_28 (fun H locs hP hD hS => ?_)
  have hP : va_P (dC, dI) vwCl (wMod a0 cy m0) H := hP
  have hD : va_D A (wMod a0 cy m0) := hD
  refine lv_aload_n hx hb dX9_isNext_31 rfl (lv_at hl 0 rfl) ?_
  refine va_get (D := (dC, dI)) (ci := 4) (v := .ref (a0 9)) (C := RX9) (T := TX9) (N := 18) hx hb htg inX9 hown hK hP 0 rfl rfl 12 (by decide) (htg _ gw862) (fun _ h9 => h9) rfl dX9_isNext_32 ?_
  refine lv_iload_n hx hb dX9_isNext_35 rfl (lv_at hl 2 rfl) ?_
  obtain ⟨v36, e36, h⟩ := bnd h
  refine x_iald (v := v36) hx hb hK hP 9 0 rfl rfl e36 dX9_isNext_36 ?_
  refine lv_icmp_ne (tgt := 44) hx hb dX9_isNext_37 (by decide) (fun c37 => ?_) (fun c37 => ?_)
  · replace h := if_f h c37
    refine lv_iconst (v := 0) hx hb dX9_isNext_44 (by decide) ?_
    obtain rfl := Option.some.inj h
    exact hE H locs 45 ls _ hP hD hS rfl (Or.inl rfl) dX9_isNext_45
  replace h := if_t h c37
  refine lv_iconst (v := 1) hx hb dX9_isNext_40 (by decide) ?_
  refine lv_goto (tgt := 45) hx hb dX9_isNext_41 (by decide) ?_
  obtain rfl := Option.some.inj h
  exact hE H locs 45 ls _ hP hD hS rfl (Or.inr rfl) dX9_isNext_45
def G_X9_areTouching (m0 : Mod) (p1 : Int32) (p2 : Int32) : Option (Int32) :=
  (G_X9_isNext m0 p1 p2).bind fun v3 =>
  if v3 = 0 then
    (G_X9_isNext m0 p2 p1).bind fun v52 =>
    if v52 = 0 then
      (rd 40 (m_ax m0) p2).bind fun v105 =>
      (rd 40 (m_ay m0) p2).bind fun v111 =>
      (rd 40 (m_bx m0) p2).bind fun v117 =>
      (rd 40 (m_by m0) p2).bind fun v123 =>
      (G_X9_isMet m0 p1 v105 v111 v117 v123).bind fun v124 =>
      (bck v124).bind fun v127 =>
      some v127
    else
      (rd 40 (m_bx m0) p2).bind fun v63 =>
      (rd 40 (m_by m0) p2).bind fun v69 =>
      (rd 40 (m_ax m0) p2).bind fun v75 =>
      (rd 40 (m_ay m0) p2).bind fun v81 =>
      (rd 40 (m_bx m0) p1).bind fun v87 =>
      (rd 40 (m_by m0) p1).bind fun v93 =>
      (G_X9_isSameWay v63 v69 v75 v81 v87 v93).bind fun v94 =>
      (bck v94).bind fun v97 =>
      some v97
  else
    (rd 40 (m_bx m0) p1).bind fun v14 =>
    (rd 40 (m_by m0) p1).bind fun v20 =>
    (rd 40 (m_ax m0) p1).bind fun v26 =>
    (rd 40 (m_ay m0) p1).bind fun v32 =>
    (rd 40 (m_bx m0) p2).bind fun v38 =>
    (rd 40 (m_by m0) p2).bind fun v44 =>
    (G_X9_isSameWay v14 v20 v26 v32 v38 v44).bind fun v45 =>
    (bck v45).bind fun v48 =>
    some v48
abbrev rm_X9_areTouching : Room := { frames := 3, cells := 0, slots := 0, locals := 79 }
theorem hdS_X9_areTouching : yX9_areTouching.cls ≠ "java/lang/invoke/MethodHandle" ∧ yX9_areTouching.cls ≠ "java/lang/invoke/VarHandle" ∧ (parseMethodDescriptor yX9_areTouching.desc).map (fun d => d.parameters.length) = some 2 := by decide +kernel
theorem hdV_X9_areTouching : yX9_areTouching.cls = RX9 ∧ yX9_areTouching.cls ≠ "java/lang/invoke/MethodHandle" ∧ yX9_areTouching.cls ≠ "java/lang/invoke/VarHandle" ∧ (parseMethodDescriptor yX9_areTouching.desc).map (fun d => d.parameters.length) = some 2 := ⟨rfl, hdS_X9_areTouching⟩
set_option maxHeartbeats 4000000 in
set_option maxRecDepth 100000 in
theorem c_X9_areTouching (l : Launch) (dC : Nat → ClassId) (dI : Nat → Nat → Nat) (cy : Nat → ClassId) (a0 : Nat → Nat) (m0 : Mod) (p1 : Int32) (p2 : Int32) (res : Int32) (h : G_X9_areTouching m0 p1 p2 = some res) : CT l (dC, dI) (TY cy) yX9_areTouching cX9_areTouching 3 (some .boolean) rm_X9_areTouching [.ref (a0 0), .int p1, .int p2] (wMod a0 cy m0) (wMod a0 cy m0) (some (.int res)) := by
  refine CT.mk_z (own := RX9) ⟨by decide, rfl⟩ (Nat.le_of_ble_eq_true rfl) ?_
  intro p e s mm args below meth cd A Q hx hb hml hown htg hN hK hA hP hD hS hE ls hl
  have hl : lv_has ls 3 [(0, .ref (a0 0)), (1, .int p1), (2, .int p2)] := hl
  replace h : _ = some res := h
  unfold G_X9_areTouching at h
  obtain ⟨H, hH⟩ : ∃ H, H = s.heap := ⟨_, rfl⟩
  obtain ⟨locs, hlocs⟩ : ∃ locs : List Loc, locs = [] := ⟨_, rfl⟩
  rw [← hlocs] at hS ⊢
  have hS : va_S A s.heap H locs := by rw [hH]; exact hS
  rw [← hH] at hP ⊢
  refine lv_aload_n hx hb dX9_areTouching_0 rfl (lv_at hl 0 rfl) ?_
  refine lv_iload_n hx hb dX9_areTouching_1 rfl (lv_at hl 1 rfl) ?_
  refine lv_iload_n hx hb dX9_areTouching_2 rfl (lv_at hl 2 rfl) ?_
  obtain ⟨v3, e3, h⟩ := bnd h
  refine cV (av := [.int p1, .int p2]) (rest := []) (st1 := [.int v3]) (k1 := 0) (k2 := 0) (ci := 4) (q0 := 0) hx hb hml hown htg hN hK (c_X9_isNext l dC dI cy a0 m0 p1 p2 v3 e3) (g_V gw970 gw972 gw18 gw63 gw973) hdV_X9_isNext rfl ⟨⟨Nat.le_of_ble_eq_true rfl, Nat.le_of_ble_eq_true rfl⟩, Nat.le_of_ble_eq_true rfl, Nat.le_of_ble_eq_true rfl⟩ hP hD hS hA ⟨rfl, rfl⟩ rfl [0, 1, 2, 3, 4, 5, 6, 7, 8, 9, 10, 11, 12, 13, 14] [] rfl rfl rfl (by decide) (by decide) hl.1 rfl (Nat.le_of_ble_eq_true rfl) rfl rfl rfl dX9_areTouching_3 (fun H locs hP hD hS => ?_)
  have hP : va_P (dC, dI) vwCl (wMod a0 cy m0) H := hP
  have hD : va_D A (wMod a0 cy m0) := hD
  refine lv_if_eq (tgt := 49) hx hb dX9_areTouching_6 (by decide) (fun c6 => ?_) (fun c6 => ?_)
  · replace h := if_t h c6
    refine lv_aload_n hx hb dX9_areTouching_49 rfl (lv_at hl 0 rfl) ?_
    refine lv_iload_n hx hb dX9_areTouching_50 rfl (lv_at hl 2 rfl) ?_
    refine lv_iload_n hx hb dX9_areTouching_51 rfl (lv_at hl 1 rfl) ?_
    obtain ⟨v52, e52, h⟩ := bnd h
    refine cV (av := [.int p2, .int p1]) (rest := []) (st1 := [.int v52]) (k1 := 0) (k2 := 0) (ci := 4) (q0 := 0) hx hb hml hown htg hN hK (c_X9_isNext l dC dI cy a0 m0 p2 p1 v52 e52) (g_V gw970 gw972 gw18 gw63 gw973) hdV_X9_isNext rfl ⟨⟨Nat.le_of_ble_eq_true rfl, Nat.le_of_ble_eq_true rfl⟩, Nat.le_of_ble_eq_true rfl, Nat.le_of_ble_eq_true rfl⟩ hP hD hS hA ⟨rfl, rfl⟩ rfl [0, 1, 2, 3, 4, 5, 6, 7, 8, 9, 10, 11, 12, 13, 14] [] rfl rfl rfl (by decide) (by decide) hl.1 rfl (Nat.le_of_ble_eq_true rfl) rfl rfl rfl dX9_areTouching_52 (fun H locs hP hD hS => ?_)
    have hP : va_P (dC, dI) vwCl (wMod a0 cy m0) H := hP
    have hD : va_D A (wMod a0 cy m0) := hD
    refine lv_if_eq (tgt := 98) hx hb dX9_areTouching_55 (by decide) (fun c55 => ?_) (fun c55 => ?_)
    · replace h := if_t h c55
      refine lv_aload_n hx hb dX9_areTouching_98 rfl (lv_at hl 0 rfl) ?_
      refine lv_iload_n hx hb dX9_areTouching_99 rfl (lv_at hl 1 rfl) ?_
      refine lv_aload_n hx hb dX9_areTouching_100 rfl (lv_at hl 0 rfl) ?_
      refine va_get (D := (dC, dI)) (ci := 4) (v := .ref (a0 10)) (C := RX9) (T := TX9) (N := 18) hx hb htg inX9 hown hK hP 0 rfl rfl 13 (by decide) (htg _ gw863) (fun _ h9 => h9) rfl dX9_areTouching_101 ?_
      refine lv_iload_n hx hb dX9_areTouching_104 rfl (lv_at hl 2 rfl) ?_
      obtain ⟨v105, e105, h⟩ := bnd h
      refine x_iald (v := v105) hx hb hK hP 10 0 rfl rfl e105 dX9_areTouching_105 ?_
      refine lv_aload_n hx hb dX9_areTouching_106 rfl (lv_at hl 0 rfl) ?_
      refine va_get (D := (dC, dI)) (ci := 4) (v := .ref (a0 11)) (C := RX9) (T := TX9) (N := 18) hx hb htg inX9 hown hK hP 0 rfl rfl 14 (by decide) (htg _ gw864) (fun _ h9 => h9) rfl dX9_areTouching_107 ?_
      refine lv_iload_n hx hb dX9_areTouching_110 rfl (lv_at hl 2 rfl) ?_
      obtain ⟨v111, e111, h⟩ := bnd h
      refine x_iald (v := v111) hx hb hK hP 11 0 rfl rfl e111 dX9_areTouching_111 ?_
      refine lv_aload_n hx hb dX9_areTouching_112 rfl (lv_at hl 0 rfl) ?_
      refine va_get (D := (dC, dI)) (ci := 4) (v := .ref (a0 12)) (C := RX9) (T := TX9) (N := 18) hx hb htg inX9 hown hK hP 0 rfl rfl 15 (by decide) (htg _ gw865) (fun _ h9 => h9) rfl dX9_areTouching_113 ?_
      refine lv_iload_n hx hb dX9_areTouching_116 rfl (lv_at hl 2 rfl) ?_
      obtain ⟨v117, e117, h⟩ := bnd h
      refine x_iald (v := v117) hx hb hK hP 12 0 rfl rfl e117 dX9_areTouching_117 ?_
      refine lv_aload_n hx hb dX9_areTouching_118 rfl (lv_at hl 0 rfl) ?_
      refine va_get (D := (dC, dI)) (ci := 4) (v := .ref (a0 13)) (C := RX9) (T := TX9) (N := 18) hx hb htg inX9 hown hK hP 0 rfl rfl 16 (by decide) (htg _ gw866) (fun _ h9 => h9) rfl dX9_areTouching_119 ?_
      refine lv_iload_n hx hb dX9_areTouching_122 rfl (lv_at hl 2 rfl) ?_
      obtain ⟨v123, e123, h⟩ := bnd h
      refine x_iald (v := v123) hx hb hK hP 13 0 rfl rfl e123 dX9_areTouching_123 ?_
      obtain ⟨v124, e124, h⟩ := bnd h
      refine cV (av := [.int p1, .int v105, .int v111, .int v117, .int v123]) (rest := []) (st1 := [.int v124]) (k1 := 0) (k2 := 0) (ci := 4) (q0 := 0) hx hb hml hown htg hN hK (c_X9_isMet l dC dI cy a0 m0 p1 v105 v111 v117 v123 v124 e124) (g_V gw977 gw979 gw19 gw63 gw980) hdV_X9_isMet rfl ⟨⟨Nat.le_of_ble_eq_true rfl, Nat.le_of_ble_eq_true rfl⟩, Nat.le_of_ble_eq_true rfl, Nat.le_of_ble_eq_true rfl⟩ hP hD hS hA ⟨rfl, rfl⟩ rfl [0, 1, 2, 3, 4, 5, 6, 7, 8, 9, 10, 11, 12, 13, 14] [] rfl rfl rfl (by decide) (by decide) hl.1 rfl (Nat.le_of_ble_eq_true rfl) rfl rfl rfl dX9_areTouching_124 (fun H locs hP hD hS => ?_)
      have hP : va_P (dC, dI) vwCl (wMod a0 cy m0) H := hP
      have hD : va_D A (wMod a0 cy m0) := hD
      obtain ⟨v127, e127, h⟩ := bnd h
      obtain ⟨rfl, hz127⟩ := bck_in e127
      obtain rfl := Option.some.inj h
      exact hE H locs 127 ls _ hP hD hS rfl hz127 dX9_areTouching_127
    replace h := if_f h c55
    refine lv_aload_n hx hb dX9_areTouching_58 rfl (lv_at hl 0 rfl) ?_
    refine va_get (D := (dC, dI)) (ci := 4) (v := .ref (a0 12)) (C := RX9) (T := TX9) (N := 18) hx hb htg inX9 hown hK hP 0 rfl rfl 15 (by decide) (htg _ gw865) (fun _ h9 => h9) rfl dX9_areTouching_59 ?_
    refine lv_iload_n hx hb dX9_areTouching_62 rfl (lv_at hl 2 rfl) ?_
    obtain ⟨v63, e63, h⟩ := bnd h
    refine x_iald (v := v63) hx hb hK hP 12 0 rfl rfl e63 dX9_areTouching_63 ?_
    refine lv_aload_n hx hb dX9_areTouching_64 rfl (lv_at hl 0 rfl) ?_
    refine va_get (D := (dC, dI)) (ci := 4) (v := .ref (a0 13)) (C := RX9) (T := TX9) (N := 18) hx hb htg inX9 hown hK hP 0 rfl rfl 16 (by decide) (htg _ gw866) (fun _ h9 => h9) rfl dX9_areTouching_65 ?_
    refine lv_iload_n hx hb dX9_areTouching_68 rfl (lv_at hl 2 rfl) ?_
    obtain ⟨v69, e69, h⟩ := bnd h
    refine x_iald (v := v69) hx hb hK hP 13 0 rfl rfl e69 dX9_areTouching_69 ?_
    refine lv_aload_n hx hb dX9_areTouching_70 rfl (lv_at hl 0 rfl) ?_
    refine va_get (D := (dC, dI)) (ci := 4) (v := .ref (a0 10)) (C := RX9) (T := TX9) (N := 18) hx hb htg inX9 hown hK hP 0 rfl rfl 13 (by decide) (htg _ gw863) (fun _ h9 => h9) rfl dX9_areTouching_71 ?_
    refine lv_iload_n hx hb dX9_areTouching_74 rfl (lv_at hl 2 rfl) ?_
    obtain ⟨v75, e75, h⟩ := bnd h
    refine x_iald (v := v75) hx hb hK hP 10 0 rfl rfl e75 dX9_areTouching_75 ?_
    refine lv_aload_n hx hb dX9_areTouching_76 rfl (lv_at hl 0 rfl) ?_
    refine va_get (D := (dC, dI)) (ci := 4) (v := .ref (a0 11)) (C := RX9) (T := TX9) (N := 18) hx hb htg inX9 hown hK hP 0 rfl rfl 14 (by decide) (htg _ gw864) (fun _ h9 => h9) rfl dX9_areTouching_77 ?_
    refine lv_iload_n hx hb dX9_areTouching_80 rfl (lv_at hl 2 rfl) ?_
    obtain ⟨v81, e81, h⟩ := bnd h
    refine x_iald (v := v81) hx hb hK hP 11 0 rfl rfl e81 dX9_areTouching_81 ?_
    refine lv_aload_n hx hb dX9_areTouching_82 rfl (lv_at hl 0 rfl) ?_
    refine va_get (D := (dC, dI)) (ci := 4) (v := .ref (a0 12)) (C := RX9) (T := TX9) (N := 18) hx hb htg inX9 hown hK hP 0 rfl rfl 15 (by decide) (htg _ gw865) (fun _ h9 => h9) rfl dX9_areTouching_83 ?_
    refine lv_iload_n hx hb dX9_areTouching_86 rfl (lv_at hl 1 rfl) ?_
    obtain ⟨v87, e87, h⟩ := bnd h
    refine x_iald (v := v87) hx hb hK hP 12 0 rfl rfl e87 dX9_areTouching_87 ?_
    refine lv_aload_n hx hb dX9_areTouching_88 rfl (lv_at hl 0 rfl) ?_
    refine va_get (D := (dC, dI)) (ci := 4) (v := .ref (a0 13)) (C := RX9) (T := TX9) (N := 18) hx hb htg inX9 hown hK hP 0 rfl rfl 16 (by decide) (htg _ gw866) (fun _ h9 => h9) rfl dX9_areTouching_89 ?_
    refine lv_iload_n hx hb dX9_areTouching_92 rfl (lv_at hl 1 rfl) ?_
    obtain ⟨v93, e93, h⟩ := bnd h
    refine x_iald (v := v93) hx hb hK hP 13 0 rfl rfl e93 dX9_areTouching_93 ?_
    obtain ⟨v94, e94, h⟩ := bnd h
    refine cS (av := [.int v63, .int v69, .int v75, .int v81, .int v87, .int v93]) (rest := []) (st1 := [.int v94]) (k1 := 0) (k2 := 0) hx hb hml hown htg hN hK (c_X9_isSameWay l dC dI cy   v63 v69 v75 v81 v87 v93 v94 e94) (g_S gw974 gw975 gw63 gw976) hdS_X9_isSameWay rfl ⟨⟨Nat.le_of_ble_eq_true rfl, Nat.le_of_ble_eq_true rfl⟩, Nat.le_of_ble_eq_true rfl, Nat.le_of_ble_eq_true rfl⟩ hP hD hS hA [] [0, 1, 2, 3, 4, 5, 6, 7, 8, 9, 10, 11, 12, 13, 14] rfl rfl rfl (by decide) (by decide) hl.1 rfl (Nat.le_of_ble_eq_true rfl) rfl rfl rfl dX9_areTouching_94 (fun H locs hP hD hS => ?_)
    obtain ⟨hP, hD⟩ := x_perm (ws' := wMod a0 cy m0) hP hD [0, 1, 2, 3, 4, 5, 6, 7, 8, 9, 10, 11, 12, 13, 14] (by decide) rfl rfl
    obtain ⟨v97, e97, h⟩ := bnd h
    obtain ⟨rfl, hz97⟩ := bck_in e97
    obtain rfl := Option.some.inj h
    exact hE H locs 97 ls _ hP hD hS rfl hz97 dX9_areTouching_97
  replace h := if_f h c6
  refine lv_aload_n hx hb dX9_areTouching_9 rfl (lv_at hl 0 rfl) ?_
  refine va_get (D := (dC, dI)) (ci := 4) (v := .ref (a0 12)) (C := RX9) (T := TX9) (N := 18) hx hb htg inX9 hown hK hP 0 rfl rfl 15 (by decide) (htg _ gw865) (fun _ h9 => h9) rfl dX9_areTouching_10 ?_
  refine lv_iload_n hx hb dX9_areTouching_13 rfl (lv_at hl 1 rfl) ?_
  obtain ⟨v14, e14, h⟩ := bnd h
  refine x_iald (v := v14) hx hb hK hP 12 0 rfl rfl e14 dX9_areTouching_14 ?_
  refine lv_aload_n hx hb dX9_areTouching_15 rfl (lv_at hl 0 rfl) ?_
  refine va_get (D := (dC, dI)) (ci := 4) (v := .ref (a0 13)) (C := RX9) (T := TX9) (N := 18) hx hb htg inX9 hown hK hP 0 rfl rfl 16 (by decide) (htg _ gw866) (fun _ h9 => h9) rfl dX9_areTouching_16 ?_
  refine lv_iload_n hx hb dX9_areTouching_19 rfl (lv_at hl 1 rfl) ?_
  obtain ⟨v20, e20, h⟩ := bnd h
  refine x_iald (v := v20) hx hb hK hP 13 0 rfl rfl e20 dX9_areTouching_20 ?_
  refine lv_aload_n hx hb dX9_areTouching_21 rfl (lv_at hl 0 rfl) ?_
  refine va_get (D := (dC, dI)) (ci := 4) (v := .ref (a0 10)) (C := RX9) (T := TX9) (N := 18) hx hb htg inX9 hown hK hP 0 rfl rfl 13 (by decide) (htg _ gw863) (fun _ h9 => h9) rfl dX9_areTouching_22 ?_
  refine lv_iload_n hx hb dX9_areTouching_25 rfl (lv_at hl 1 rfl) ?_
  obtain ⟨v26, e26, h⟩ := bnd h
  refine x_iald (v := v26) hx hb hK hP 10 0 rfl rfl e26 dX9_areTouching_26 ?_
  refine lv_aload_n hx hb dX9_areTouching_27 rfl (lv_at hl 0 rfl) ?_
  refine va_get (D := (dC, dI)) (ci := 4) (v := .ref (a0 11)) (C := RX9) (T := TX9) (N := 18) hx hb htg inX9 hown hK hP 0 rfl rfl 14 (by decide) (htg _ gw864) (fun _ h9 => h9) rfl dX9_areTouching_28 ?_
  refine lv_iload_n hx hb dX9_areTouching_31 rfl (lv_at hl 1 rfl) ?_
  obtain ⟨v32, e32, h⟩ := bnd h
  refine x_iald (v := v32) hx hb hK hP 11 0 rfl rfl e32 dX9_areTouching_32 ?_
  refine lv_aload_n hx hb dX9_areTouching_33 rfl (lv_at hl 0 rfl) ?_
  refine va_get (D := (dC, dI)) (ci := 4) (v := .ref (a0 12)) (C := RX9) (T := TX9) (N := 18) hx hb htg inX9 hown hK hP 0 rfl rfl 15 (by decide) (htg _ gw865) (fun _ h9 => h9) rfl dX9_areTouching_34 ?_
  refine lv_iload_n hx hb dX9_areTouching_37 rfl (lv_at hl 2 rfl) ?_
  obtain ⟨v38, e38, h⟩ := bnd h
  refine x_iald (v := v38) hx hb hK hP 12 0 rfl rfl e38 dX9_areTouching_38 ?_
  refine lv_aload_n hx hb dX9_areTouching_39 rfl (lv_at hl 0 rfl) ?_
  refine va_get (D := (dC, dI)) (ci := 4) (v := .ref (a0 13)) (C := RX9) (T := TX9) (N := 18) hx hb htg inX9 hown hK hP 0 rfl rfl 16 (by decide) (htg _ gw866) (fun _ h9 => h9) rfl dX9_areTouching_40 ?_
  refine lv_iload_n hx hb dX9_areTouching_43 rfl (lv_at hl 2 rfl) ?_
  obtain ⟨v44, e44, h⟩ := bnd h
  refine x_iald (v := v44) hx hb hK hP 13 0 rfl rfl e44 dX9_areTouching_44 ?_
  obtain ⟨v45, e45, h⟩ := bnd h
  refine cS (av := [.int v14, .int v20, .int v26, .int v32, .int v38, .int v44]) (rest := []) (st1 := [.int v45]) (k1 := 0) (k2 := 0) hx hb hml hown htg hN hK (c_X9_isSameWay l dC dI cy   v14 v20 v26 v32 v38 v44 v45 e45) (g_S gw974 gw975 gw63 gw976) hdS_X9_isSameWay rfl ⟨⟨Nat.le_of_ble_eq_true rfl, Nat.le_of_ble_eq_true rfl⟩, Nat.le_of_ble_eq_true rfl, Nat.le_of_ble_eq_true rfl⟩ hP hD hS hA [] [0, 1, 2, 3, 4, 5, 6, 7, 8, 9, 10, 11, 12, 13, 14] rfl rfl rfl (by decide) (by decide) hl.1 rfl (Nat.le_of_ble_eq_true rfl) rfl rfl rfl dX9_areTouching_45 (fun H locs hP hD hS => ?_)
  obtain ⟨hP, hD⟩ := x_perm (ws' := wMod a0 cy m0) hP hD [0, 1, 2, 3, 4, 5, 6, 7, 8, 9, 10, 11, 12, 13, 14] (by decide) rfl rfl
  obtain ⟨v48, e48, h⟩ := bnd h
  obtain ⟨rfl, hz48⟩ := bck_in e48
  obtain rfl := Option.some.inj h
  exact hE H locs 48 ls _ hP hD hS rfl hz48 dX9_areTouching_48
def G_X9_isRule5_L28 (r16 : Int32 → Int32 → Int32 → Option (Int32)) (m0 : Mod) : Nat → Int32 → Int32 → Int32 → Int32 → Option (Int32)
  | 0, _, _, _, _ => none
  | n28 + 1, l4_28, l3_28, l2_28, l1_28 =>
    (rd 85 (m_state m0) 0).bind fun v35 =>
    if v35 ≤ l4_28 then
      r16 (l3_28 + 1) l2_28 l1_28
    else
      ((if l1_28 = 0 then
          some 0
        else
          if l4_28 = l2_28 then
            some 1
          else
            (G_X9_x m0 l2_28 l3_28).bind fun v56 =>
            (G_X9_y m0 l2_28 l3_28).bind fun v64 =>
            (G_X9_surrounds m0 l4_28 (2 * v56) (2 * v64)).bind fun v68 =>
            ((if l4_28 = 0 then
                some 1
              else
                some 0) : Option (Int32)).bind fun b73 =>
            if v68 = b73 then
              some 1
            else
              some 0) : Option (Int32)).bind fun b40 =>
      (G_X9_isRule5_L28 r16 m0 n28) (l4_28 + 1) l3_28 l2_28 b40
def G_X9_isRule5_L16 (r4 : Int32 → Int32 → Option (Int32)) (m0 : Mod) : Nat → Int32 → Int32 → Int32 → Option (Int32)
  | 0, _, _, _ => none
  | n16 + 1, l3_16, l2_16, l1_16 =>
    (G_X9_many m0 l2_16).bind fun v19 =>
    if v19 ≤ l3_16 then
      r4 (l2_16 + 1) l1_16
    else
      G_X9_isRule5_L28 (G_X9_isRule5_L16 r4 m0 n16) m0 FU 0 l3_16 l2_16 l1_16
def G_X9_isRule5_L4  (m0 : Mod) : Nat → Int32 → Int32 → Option (Int32)
  | 0, _, _ => none
  | n4 + 1, l2_4, l1_4 =>
    (rd 85 (m_state m0) 0).bind fun v10 =>
    if v10 ≤ l2_4 then
      (bck l1_4).bind fun v109 =>
      some v109
    else
      G_X9_isRule5_L16 (G_X9_isRule5_L4 m0 n4) m0 FU 0 l2_4 l1_4
def G_X9_isRule5 (m0 : Mod) : Option (Int32) :=
  G_X9_isRule5_L4 m0 FU 1 1
abbrev rm_X9_isRule5 : Room := { frames := 3, cells := 0, slots := 0, locals := 74 }
theorem hdS_X9_isRule5 : yX9_isRule5.cls ≠ "java/lang/invoke/MethodHandle" ∧ yX9_isRule5.cls ≠ "java/lang/invoke/VarHandle" ∧ (parseMethodDescriptor yX9_isRule5.desc).map (fun d => d.parameters.length) = some 0 := by decide +kernel
theorem hdV_X9_isRule5 : yX9_isRule5.cls = RX9 ∧ yX9_isRule5.cls ≠ "java/lang/invoke/MethodHandle" ∧ yX9_isRule5.cls ≠ "java/lang/invoke/VarHandle" ∧ (parseMethodDescriptor yX9_isRule5.desc).map (fun d => d.parameters.length) = some 0 := ⟨rfl, hdS_X9_isRule5⟩
set_option maxHeartbeats 4000000 in
set_option maxRecDepth 100000 in
theorem c_X9_isRule5 (l : Launch) (dC : Nat → ClassId) (dI : Nat → Nat → Nat) (cy : Nat → ClassId) (a0 : Nat → Nat) (m0 : Mod) (res : Int32) (h : G_X9_isRule5 m0 = some res) : CT l (dC, dI) (TY cy) yX9_isRule5 cX9_isRule5 5 (some .boolean) rm_X9_isRule5 [.ref (a0 0)] (wMod a0 cy m0) (wMod a0 cy m0) (some (.int res)) := by
  refine CT.mk_z (own := RX9) ⟨by decide, rfl⟩ (Nat.le_of_ble_eq_true rfl) ?_
  intro p e s mm args below meth cd A Q hx hb hml hown htg hN hK hA hP hD hS hE ls hl
  have hl : lv_has ls 5 [(0, .ref (a0 0))] := hl
  replace h : _ = some res := h
  unfold G_X9_isRule5 at h
  obtain ⟨H, hH⟩ : ∃ H, H = s.heap := ⟨_, rfl⟩
  obtain ⟨locs, hlocs⟩ : ∃ locs : List Loc, locs = [] := ⟨_, rfl⟩
  rw [← hlocs] at hS ⊢
  have hS : va_S A s.heap H locs := by rw [hH]; exact hS
  rw [← hH] at hP ⊢
  refine lv_iconst (v := 1) hx hb dX9_isRule5_0 (by decide) ?_
  refine lv_istore_n (lv' := [(1, .int 1), (0, .ref (a0 0))]) hx hb dX9_isRule5_1 rfl hl (by decide) rfl (fun ls hl => ?_)
  refine lv_iconst (v := 1) hx hb dX9_isRule5_2 (by decide) ?_
  refine lv_istore_n (lv' := [(2, .int 1), (1, .int 1), (0, .ref (a0 0))]) hx hb dX9_isRule5_3 rfl hl (by decide) rfl (fun ls hl => ?_)
  have hL4 : ∀ (n4 : Nat) (l2_4 : Int32) (l1_4 : Int32) (H : Heap) (locs : List Loc) (ls : Array Slot), G_X9_isRule5_L4 m0 n4 l2_4 l1_4 = some res → va_P (dC, dI) vwCl (wMod a0 cy m0) H → va_D A (wMod a0 cy m0) → va_S A s.heap H locs → lv_has ls 5 [(2, .int l2_4), (1, .int l1_4), (0, .ref (a0 0))] → W p l e rm_X9_isRule5 s mm args below meth cd H locs 0 0 Q (F0 mm 4 ls []) := by
    intro n4
    induction n4 with
    | zero => intro l2_4 l1_4 H locs ls h; exact absurd h (by simp [G_X9_isRule5_L4])
    | succ n4 ih4 =>
      intro l2_4 l1_4 H locs ls h hP hD hS hl
      rw [G_X9_isRule5_L4] at h
      refine lv_iload_n hx hb dX9_isRule5_4 rfl (lv_at hl 0 rfl) ?_
      refine lv_aload_n hx hb dX9_isRule5_5 rfl (lv_at hl 2 rfl) ?_
      refine va_get (D := (dC, dI)) (ci := 4) (v := .ref (a0 1)) (C := RX9) (T := TX9) (N := 18) hx hb htg inX9 hown hK hP 0 rfl rfl 1 (by decide) (htg _ gw851) (fun _ h9 => h9) rfl dX9_isRule5_6 ?_
      refine lv_iconst (v := 0) hx hb dX9_isRule5_9 (by decide) ?_
      obtain ⟨v10, e10, h⟩ := bnd h
      refine x_iald (v := v10) hx hb hK hP 1 0 rfl rfl e10 dX9_isRule5_10 ?_
      refine lv_icmp_ge (tgt := 108) hx hb dX9_isRule5_11 (by decide) (fun c11 => ?_) (fun c11 => ?_)
      · replace h := if_t h c11
        refine lv_iload_n hx hb dX9_isRule5_108 rfl (lv_at hl 1 rfl) ?_
        obtain ⟨v109, e109, h⟩ := bnd h
        obtain ⟨rfl, hz109⟩ := bck_in e109
        obtain rfl := Option.some.inj h
        exact hE H locs 109 ls _ hP hD hS rfl hz109 dX9_isRule5_109
      replace h := if_f h c11
      refine lv_iconst (v := 0) hx hb dX9_isRule5_14 (by decide) ?_
      refine lv_istore_n (lv' := [(3, .int 0), (2, .int l2_4), (1, .int l1_4), (0, .ref (a0 0))]) hx hb dX9_isRule5_15 rfl hl (by decide) rfl (fun ls hl => ?_)
      have hL16 : ∀ (n16 : Nat) (l3_16 : Int32) (l2_16 : Int32) (l1_16 : Int32) (H : Heap) (locs : List Loc) (ls : Array Slot), G_X9_isRule5_L16 (G_X9_isRule5_L4 m0 n4) m0 n16 l3_16 l2_16 l1_16 = some res → va_P (dC, dI) vwCl (wMod a0 cy m0) H → va_D A (wMod a0 cy m0) → va_S A s.heap H locs → lv_has ls 5 [(3, .int l3_16), (2, .int l2_16), (1, .int l1_16), (0, .ref (a0 0))] → W p l e rm_X9_isRule5 s mm args below meth cd H locs 0 0 Q (F0 mm 16 ls []) := by
        intro n16
        induction n16 with
        | zero => intro l3_16 l2_16 l1_16 H locs ls h; exact absurd h (by simp [G_X9_isRule5_L16])
        | succ n16 ih16 =>
          intro l3_16 l2_16 l1_16 H locs ls h hP hD hS hl
          rw [G_X9_isRule5_L16] at h
          refine lv_iload_n hx hb dX9_isRule5_16 rfl (lv_at hl 0 rfl) ?_
          refine lv_aload_n hx hb dX9_isRule5_17 rfl (lv_at hl 3 rfl) ?_
          refine lv_iload_n hx hb dX9_isRule5_18 rfl (lv_at hl 1 rfl) ?_
          obtain ⟨v19, e19, h⟩ := bnd h
          refine cV (av := [.int l2_16]) (rest := [.int l3_16]) (st1 := [.int v19, .int l3_16]) (k1 := 0) (k2 := 0) (ci := 4) (q0 := 0) hx hb hml hown htg hN hK (c_X9_many l dC dI cy a0 m0 l2_16 v19 e19) (g_V gw935 gw937 gw10 gw63 gw938) hdV_X9_many rfl ⟨⟨Nat.le_of_ble_eq_true rfl, Nat.le_of_ble_eq_true rfl⟩, Nat.le_of_ble_eq_true rfl, Nat.le_of_ble_eq_true rfl⟩ hP hD hS hA ⟨rfl, rfl⟩ rfl [0, 1, 2, 3, 4, 5, 6, 7, 8, 9, 10, 11, 12, 13, 14] [] rfl rfl rfl (by decide) (by decide) hl.1 rfl (Nat.le_of_ble_eq_true rfl) rfl rfl rfl dX9_isRule5_19 (fun H locs hP hD hS => ?_)
          have hP : va_P (dC, dI) vwCl (wMod a0 cy m0) H := hP
          have hD : va_D A (wMod a0 cy m0) := hD
          refine lv_icmp_ge (tgt := 102) hx hb dX9_isRule5_22 (by decide) (fun c22 => ?_) (fun c22 => ?_)
          · replace h := if_t h c22
            refine lv_iinc (v := l2_16 + 1) (lv' := [(2, .int (l2_16 + 1)), (3, .int l3_16), (1, .int l1_16), (0, .ref (a0 0))]) hx hb dX9_isRule5_102 hl (k := 1) rfl rfl (by decide) rfl (fun ls hl => ?_)
            refine lv_goto (tgt := 4) hx hb dX9_isRule5_105 (by decide) ?_
            exact ih4 (l2_16 + 1) l1_16 H locs ls h hP hD hS (lv_sub hl [0, 2, 3] rfl)
          replace h := if_f h c22
          refine lv_iconst (v := 0) hx hb dX9_isRule5_25 (by decide) ?_
          refine lv_istore (lv' := [(4, .int 0), (3, .int l3_16), (2, .int l2_16), (1, .int l1_16), (0, .ref (a0 0))]) hx hb dX9_isRule5_26 hl (by decide) rfl (fun ls hl => ?_)
          have hL28 : ∀ (n28 : Nat) (l4_28 : Int32) (l3_28 : Int32) (l2_28 : Int32) (l1_28 : Int32) (H : Heap) (locs : List Loc) (ls : Array Slot), G_X9_isRule5_L28 (G_X9_isRule5_L16 (G_X9_isRule5_L4 m0 n4) m0 n16) m0 n28 l4_28 l3_28 l2_28 l1_28 = some res → va_P (dC, dI) vwCl (wMod a0 cy m0) H → va_D A (wMod a0 cy m0) → va_S A s.heap H locs → lv_has ls 5 [(4, .int l4_28), (3, .int l3_28), (2, .int l2_28), (1, .int l1_28), (0, .ref (a0 0))] → W p l e rm_X9_isRule5 s mm args below meth cd H locs 0 0 Q (F0 mm 28 ls []) := by
            intro n28
            induction n28 with
            | zero => intro l4_28 l3_28 l2_28 l1_28 H locs ls h; exact absurd h (by simp [G_X9_isRule5_L28])
            | succ n28 ih28 =>
              intro l4_28 l3_28 l2_28 l1_28 H locs ls h hP hD hS hl
              rw [G_X9_isRule5_L28] at h
              refine lv_iload hx hb dX9_isRule5_28 (lv_at hl 0 rfl) ?_
              refine lv_aload_n hx hb dX9_isRule5_30 rfl (lv_at hl 4 rfl) ?_
              refine va_get (D := (dC, dI)) (ci := 4) (v := .ref (a0 1)) (C := RX9) (T := TX9) (N := 18) hx hb htg inX9 hown hK hP 0 rfl rfl 1 (by decide) (htg _ gw851) (fun _ h9 => h9) rfl dX9_isRule5_31 ?_
              refine lv_iconst (v := 0) hx hb dX9_isRule5_34 (by decide) ?_
              obtain ⟨v35, e35, h⟩ := bnd h
              refine x_iald (v := v35) hx hb hK hP 1 0 rfl rfl e35 dX9_isRule5_35 ?_
              refine lv_icmp_ge (tgt := 96) hx hb dX9_isRule5_36 (by decide) (fun c36 => ?_) (fun c36 => ?_)
              · replace h := if_t h c36
                refine lv_iinc (v := l3_28 + 1) (lv' := [(3, .int (l3_28 + 1)), (4, .int l4_28), (2, .int l2_28), (1, .int l1_28), (0, .ref (a0 0))]) hx hb dX9_isRule5_96 hl (k := 1) rfl rfl (by decide) rfl (fun ls hl => ?_)
                refine lv_goto (tgt := 16) hx hb dX9_isRule5_99 (by decide) ?_
                exact ih16 (l3_28 + 1) l2_28 l1_28 H locs ls h hP hD hS (lv_sub hl [0, 2, 3, 4] rfl)
              replace h := if_f h c36
              refine lv_iload_n hx hb dX9_isRule5_39 rfl (lv_at hl 3 rfl) ?_
              obtain ⟨b40, e40, h⟩ := bnd h
              have hr89 : ∀ (H : Heap) (locs : List Loc) (ls : Array Slot), va_P (dC, dI) vwCl (wMod a0 cy m0) H → va_D A (wMod a0 cy m0) → va_S A s.heap H locs → lv_has ls 5 [(4, .int l4_28), (3, .int l3_28), (2, .int l2_28), (1, .int l1_28), (0, .ref (a0 0))] → W p l e rm_X9_isRule5 s mm args below meth cd H locs 0 0 Q (F0 mm 89 ls [.int b40]) := by
                intro H locs ls hP hD hS hl
                refine lv_istore_n (lv' := [(1, .int b40), (4, .int l4_28), (3, .int l3_28), (2, .int l2_28), (0, .ref (a0 0))]) hx hb dX9_isRule5_89 rfl hl (by decide) rfl (fun ls hl => ?_)
                refine lv_iinc (v := l4_28 + 1) (lv' := [(4, .int (l4_28 + 1)), (1, .int b40), (3, .int l3_28), (2, .int l2_28), (0, .ref (a0 0))]) hx hb dX9_isRule5_90 hl (k := 1) rfl rfl (by decide) rfl (fun ls hl => ?_)
                refine lv_goto (tgt := 28) hx hb dX9_isRule5_93 (by decide) ?_
                exact ih28 (l4_28 + 1) l3_28 l2_28 b40 H locs ls h hP hD hS (lv_sub hl [0, 2, 3, 1, 4] rfl)
              have h := e40
              clear e40
              refine lv_if_eq (tgt := 88) hx hb dX9_isRule5_40 (by decide) (fun c40 => ?_) (fun c40 => ?_)
              · replace h := if_t h c40
                refine lv_iconst (v := 0) hx hb dX9_isRule5_88 (by decide) ?_
                obtain rfl := Option.some.inj h
                exact hr89 H locs ls hP hD hS hl
              replace h := if_f h c40
              refine lv_iload hx hb dX9_isRule5_43 (lv_at hl 0 rfl) ?_
              refine lv_iload_n hx hb dX9_isRule5_45 rfl (lv_at hl 2 rfl) ?_
              refine lv_icmp_eq (tgt := 84) hx hb dX9_isRule5_46 (by decide) (fun c46 => ?_) (fun c46 => ?_)
              · replace h := if_t h c46
                refine lv_iconst (v := 1) hx hb dX9_isRule5_84 (by decide) ?_
                refine lv_goto (tgt := 89) hx hb dX9_isRule5_85 (by decide) ?_
                obtain rfl := Option.some.inj h
                exact hr89 H locs ls hP hD hS hl
              replace h := if_f h c46
              refine lv_aload_n hx hb dX9_isRule5_49 rfl (lv_at hl 4 rfl) ?_
              refine lv_iload hx hb dX9_isRule5_50 (lv_at hl 0 rfl) ?_
              refine lv_iconst (v := 2) hx hb dX9_isRule5_52 (by decide) ?_
              refine lv_aload_n hx hb dX9_isRule5_53 rfl (lv_at hl 4 rfl) ?_
              refine lv_iload_n hx hb dX9_isRule5_54 rfl (lv_at hl 2 rfl) ?_
              refine lv_iload_n hx hb dX9_isRule5_55 rfl (lv_at hl 1 rfl) ?_
              obtain ⟨v56, e56, h⟩ := bnd h
              refine cV (av := [.int l2_28, .int l3_28]) (rest := [.int 2, .int l4_28, .ref (a0 0)]) (st1 := [.int v56, .int 2, .int l4_28, .ref (a0 0)]) (k1 := 0) (k2 := 0) (ci := 4) (q0 := 0) hx hb hml hown htg hN hK (c_X9_x l dC dI cy a0 m0 l2_28 l3_28 v56 e56) (g_V gw947 gw949 gw13 gw63 gw950) hdV_X9_x rfl ⟨⟨Nat.le_of_ble_eq_true rfl, Nat.le_of_ble_eq_true rfl⟩, Nat.le_of_ble_eq_true rfl, Nat.le_of_ble_eq_true rfl⟩ hP hD hS hA ⟨rfl, rfl⟩ rfl [0, 1, 2, 3, 4, 5, 6, 7, 8, 9, 10, 11, 12, 13, 14] [] rfl rfl rfl (by decide) (by decide) hl.1 rfl (Nat.le_of_ble_eq_true rfl) rfl rfl rfl dX9_isRule5_56 (fun H locs hP hD hS => ?_)
              have hP : va_P (dC, dI) vwCl (wMod a0 cy m0) H := hP
              have hD : va_D A (wMod a0 cy m0) := hD
              refine lv_imul hx hb dX9_isRule5_59 ?_
              refine lv_iconst (v := 2) hx hb dX9_isRule5_60 (by decide) ?_
              refine lv_aload_n hx hb dX9_isRule5_61 rfl (lv_at hl 4 rfl) ?_
              refine lv_iload_n hx hb dX9_isRule5_62 rfl (lv_at hl 2 rfl) ?_
              refine lv_iload_n hx hb dX9_isRule5_63 rfl (lv_at hl 1 rfl) ?_
              obtain ⟨v64, e64, h⟩ := bnd h
              refine cV (av := [.int l2_28, .int l3_28]) (rest := [.int 2, .int (2 * v56), .int l4_28, .ref (a0 0)]) (st1 := [.int v64, .int 2, .int (2 * v56), .int l4_28, .ref (a0 0)]) (k1 := 0) (k2 := 0) (ci := 4) (q0 := 0) hx hb hml hown htg hN hK (c_X9_y l dC dI cy a0 m0 l2_28 l3_28 v64 e64) (g_V gw951 gw953 gw14 gw63 gw954) hdV_X9_y rfl ⟨⟨Nat.le_of_ble_eq_true rfl, Nat.le_of_ble_eq_true rfl⟩, Nat.le_of_ble_eq_true rfl, Nat.le_of_ble_eq_true rfl⟩ hP hD hS hA ⟨rfl, rfl⟩ rfl [0, 1, 2, 3, 4, 5, 6, 7, 8, 9, 10, 11, 12, 13, 14] [] rfl rfl rfl (by decide) (by decide) hl.1 rfl (Nat.le_of_ble_eq_true rfl) rfl rfl rfl dX9_isRule5_64 (fun H locs hP hD hS => ?_)
              have hP : va_P (dC, dI) vwCl (wMod a0 cy m0) H := hP
              have hD : va_D A (wMod a0 cy m0) := hD
              refine lv_imul hx hb dX9_isRule5_67 ?_
              obtain ⟨v68, e68, h⟩ := bnd h
              refine cV (av := [.int l4_28, .int (2 * v56), .int (2 * v64)]) (rest := []) (st1 := [.int v68]) (k1 := 0) (k2 := 0) (ci := 4) (q0 := 0) hx hb hml hown htg hN hK (c_X9_surrounds l dC dI cy a0 m0 l4_28 (2 * v56) (2 * v64) v68 e68) (g_V gw988 gw990 gw21 gw63 gw991) hdV_X9_surrounds rfl ⟨⟨Nat.le_of_ble_eq_true rfl, Nat.le_of_ble_eq_true rfl⟩, Nat.le_of_ble_eq_true rfl, Nat.le_of_ble_eq_true rfl⟩ hP hD hS hA ⟨rfl, rfl⟩ rfl [0, 1, 2, 3, 4, 5, 6, 7, 8, 9, 10, 11, 12, 13, 14] [] rfl rfl rfl (by decide) (by decide) hl.1 rfl (Nat.le_of_ble_eq_true rfl) rfl rfl rfl dX9_isRule5_68 (fun H locs hP hD hS => ?_)
              have hP : va_P (dC, dI) vwCl (wMod a0 cy m0) H := hP
              have hD : va_D A (wMod a0 cy m0) := hD
              refine lv_iload hx hb dX9_isRule5_71 (lv_at hl 0 rfl) ?_
              obtain ⟨b73, e73, h⟩ := bnd h
              have hr81 : ∀ (H : Heap) (locs : List Loc) (ls : Array Slot), va_P (dC, dI) vwCl (wMod a0 cy m0) H → va_D A (wMod a0 cy m0) → va_S A s.heap H locs → lv_has ls 5 [(4, .int l4_28), (3, .int l3_28), (2, .int l2_28), (1, .int l1_28), (0, .ref (a0 0))] → W p l e rm_X9_isRule5 s mm args below meth cd H locs 0 0 Q (F0 mm 81 ls [.int b73, .int v68]) := by
                intro H locs ls hP hD hS hl
                refine lv_icmp_ne (tgt := 88) hx hb dX9_isRule5_81 (by decide) (fun c81 => ?_) (fun c81 => ?_)
                · replace h := if_f h c81
                  refine lv_iconst (v := 0) hx hb dX9_isRule5_88 (by decide) ?_
                  obtain rfl := Option.some.inj h
                  exact hr89 H locs ls hP hD hS hl
                replace h := if_t h c81
                refine lv_iconst (v := 1) hx hb dX9_isRule5_84 (by decide) ?_
                refine lv_goto (tgt := 89) hx hb dX9_isRule5_85 (by decide) ?_
                obtain rfl := Option.some.inj h
                exact hr89 H locs ls hP hD hS hl
              have h := e73
              clear e73
              refine lv_if_ne (tgt := 80) hx hb dX9_isRule5_73 (by decide) (fun c73 => ?_) (fun c73 => ?_)
              · replace h := if_f h c73
                refine lv_iconst (v := 0) hx hb dX9_isRule5_80 (by decide) ?_
                obtain rfl := Option.some.inj h
                exact hr81 H locs ls hP hD hS hl
              replace h := if_t h c73
              refine lv_iconst (v := 1) hx hb dX9_isRule5_76 (by decide) ?_
              refine lv_goto (tgt := 81) hx hb dX9_isRule5_77 (by decide) ?_
              obtain rfl := Option.some.inj h
              exact hr81 H locs ls hP hD hS hl
          exact hL28 FU 0 l3_16 l2_16 l1_16 H locs ls h hP hD hS (lv_sub hl [0, 1, 2, 3, 4] rfl)
      exact hL16 FU 0 l2_4 l1_4 H locs ls h hP hD hS (lv_sub hl [0, 1, 2, 3] rfl)
  exact hL4 FU 1 1 H locs ls h hP hD hS (lv_sub hl [0, 1, 2] rfl)
def G_X9_broken_L117 (r106 : Mod → Int32 → Int32 → Int32 → Option (Int32 × Mod))  : Nat → Mod → Int32 → Int32 → Int32 → Int32 → Option (Int32 × Mod)
  | 0, _, _, _, _, _ => none
  | n117 + 1, m0_117, l4_117, l3_117, l2_117, l1_117 =>
    if l3_117 ≤ l4_117 then
      r106 m0_117 (l3_117 + 1) l2_117 l1_117
    else
      ((if l1_117 = 0 then
          (rd 40 (m_ax m0_117) l4_117).bind fun v135 =>
          (rd 40 (m_ay m0_117) l4_117).bind fun v142 =>
          (rd 40 (m_bx m0_117) l4_117).bind fun v149 =>
          (rd 40 (m_by m0_117) l4_117).bind fun v156 =>
          (G_X9_isCrossed m0_117 l3_117 v135 v142 v149 v156).bind fun v157 =>
          if v157 = 0 then
            some 0
          else
            some 1
        else
          some 1) : Option (Int32)).bind fun b124 =>
      ((if l2_117 = 0 then
          (G_X9_areTouching m0_117 l3_117 l4_117).bind fun v177 =>
          if v177 = 0 then
            some 0
          else
            some 1
        else
          some 1) : Option (Int32)).bind fun b170 =>
      (G_X9_broken_L117 r106 n117) m0_117 (l4_117 + 1) l3_117 b170 b124
def G_X9_broken_L106   : Nat → Mod → Int32 → Int32 → Int32 → Option (Int32 × Mod)
  | 0, _, _, _, _ => none
  | n106 + 1, m0_106, l3_106, l2_106, l1_106 =>
    if m_sides m0_106 ≤ l3_106 then
      if l1_106 = 0 then
        if l2_106 = 0 then
          (G_X9_isRule5 m0_106).bind fun v218 =>
          if v218 = 0 then
            some (5, m0_106)
          else
            some (0, m0_106)
        else
          some (4, m0_106)
      else
        some (3, m0_106)
    else
      G_X9_broken_L117 (G_X9_broken_L106 n106) FU m0_106 0 l3_106 l2_106 l1_106
def G_X9_broken_j94 (r54 : Mod → Int32 → Option (Int32 × Mod))  (m0_94 : Mod) (l1_94 : Int32) : Option (Int32 × Mod) :=
  r54 m0_94 (l1_94 + 1)
def G_X9_broken_L54   : Nat → Mod → Int32 → Option (Int32 × Mod)
  | 0, _, _ => none
  | n54 + 1, m0_54, l1_54 =>
    if m_sides m0_54 ≤ l1_54 then
      G_X9_broken_L106 FU m0_54 0 0 0
    else
      (rd 40 (m_ax m0_54) l1_54).bind fun v67 =>
      (rd 40 (m_bx m0_54) l1_54).bind fun v73 =>
      if v67 = v73 then
        (rd 40 (m_ay m0_54) l1_54).bind fun v82 =>
        (rd 40 (m_by m0_54) l1_54).bind fun v88 =>
        if v82 = v88 then
          some (2, m0_54)
        else
          G_X9_broken_j94 (G_X9_broken_L54 n54) m0_54 l1_54
      else
        G_X9_broken_j94 (G_X9_broken_L54 n54) m0_54 l1_54
def G_X9_broken_L6   : Nat → Mod → Int32 → Option (Int32 × Mod)
  | 0, _, _ => none
  | n6 + 1, m0_6, l1_6 =>
    if m_sides m0_6 ≤ l1_6 then
      G_X9_broken_L54 FU m0_6 0
    else
      (rd 40 (m_ax m0_6) l1_6).bind fun v19 =>
      (G_X9_within v19 0 15).bind fun v23 =>
      if v23 = 0 then
        some (1, m0_6)
      else
        (rd 40 (m_ay m0_6) l1_6).bind fun v34 =>
        (G_X9_within v34 0 15).bind fun v38 =>
        if v38 = 0 then
          some (1, m0_6)
        else
          (G_X9_broken_L6 n6) m0_6 (l1_6 + 1)
def G_X9_broken (m0 : Mod) : Option (Int32 × Mod) :=
  (G_X9_findSides m0).bind fun v1 =>
  G_X9_broken_L6 FU v1 0
abbrev rm_X9_broken : Room := { frames := 4, cells := 0, slots := 0, locals := 101 }
theorem hdS_X9_broken : yX9_broken.cls ≠ "java/lang/invoke/MethodHandle" ∧ yX9_broken.cls ≠ "java/lang/invoke/VarHandle" ∧ (parseMethodDescriptor yX9_broken.desc).map (fun d => d.parameters.length) = some 0 := by decide +kernel
theorem hdV_X9_broken : yX9_broken.cls = RX9 ∧ yX9_broken.cls ≠ "java/lang/invoke/MethodHandle" ∧ yX9_broken.cls ≠ "java/lang/invoke/VarHandle" ∧ (parseMethodDescriptor yX9_broken.desc).map (fun d => d.parameters.length) = some 0 := ⟨rfl, hdS_X9_broken⟩
set_option maxHeartbeats 4000000 in
set_option maxRecDepth 100000 in
theorem c_X9_broken (l : Launch) (dC : Nat → ClassId) (dI : Nat → Nat → Nat) (cy : Nat → ClassId) (a0 : Nat → Nat) (m0 : Mod) (res : Int32 × Mod) (h : G_X9_broken m0 = some res) : CT l (dC, dI) (TY cy) yX9_broken cX9_broken 5 (some .int) rm_X9_broken [.ref (a0 0)] (wMod a0 cy m0) (wMod a0 cy res.2) (some (.int res.1)) := by
  refine CT.mk_i (own := RX9) ⟨by decide, rfl⟩ (Nat.le_of_ble_eq_true rfl) ?_
  intro p e s mm args below meth cd A Q hx hb hml hown htg hN hK hA hP hD hS hE ls hl
  have hl : lv_has ls 5 [(0, .ref (a0 0))] := hl
  replace h : _ = some res := h
  unfold G_X9_broken at h
  obtain ⟨H, hH⟩ : ∃ H, H = s.heap := ⟨_, rfl⟩
  obtain ⟨locs, hlocs⟩ : ∃ locs : List Loc, locs = [] := ⟨_, rfl⟩
  rw [← hlocs] at hS ⊢
  have hS : va_S A s.heap H locs := by rw [hH]; exact hS
  rw [← hH] at hP ⊢
  refine lv_aload_n hx hb dX9_broken_0 rfl (lv_at hl 0 rfl) ?_
  obtain ⟨v1, e1, h⟩ := bnd h
  refine cV (av := []) (rest := []) (st1 := []) (k1 := 0) (k2 := 0) (ci := 4) (q0 := 0) hx hb hml hown htg hN hK (c_X9_findSides l dC dI cy a0 m0  v1 e1) (g_V gw943 gw945 gw12 gw63 gw946) hdV_X9_findSides rfl ⟨⟨Nat.le_of_ble_eq_true rfl, Nat.le_of_ble_eq_true rfl⟩, Nat.le_of_ble_eq_true rfl, Nat.le_of_ble_eq_true rfl⟩ hP hD hS hA ⟨rfl, rfl⟩ rfl [0, 1, 2, 3, 4, 5, 6, 7, 8, 9, 10, 11, 12, 13, 14] [] rfl rfl rfl (by decide) (by decide) hl.1 rfl (Nat.le_of_ble_eq_true rfl) rfl rfl rfl dX9_broken_1 (fun H locs hP hD hS => ?_)
  have hP : va_P (dC, dI) vwCl (wMod a0 cy v1) H := hP
  have hD : va_D A (wMod a0 cy v1) := hD
  refine lv_iconst (v := 0) hx hb dX9_broken_4 (by decide) ?_
  refine lv_istore_n (lv' := [(1, .int 0), (0, .ref (a0 0))]) hx hb dX9_broken_5 rfl hl (by decide) rfl (fun ls hl => ?_)
  have hL6 : ∀ (n6 : Nat) (m0_6 : Mod) (l1_6 : Int32) (H : Heap) (locs : List Loc) (ls : Array Slot), G_X9_broken_L6 n6 m0_6 l1_6 = some res → va_P (dC, dI) vwCl (wMod a0 cy m0_6) H → va_D A (wMod a0 cy m0_6) → va_S A s.heap H locs → lv_has ls 5 [(1, .int l1_6), (0, .ref (a0 0))] → W p l e rm_X9_broken s mm args below meth cd H locs 0 0 Q (F0 mm 6 ls []) := by
    intro n6
    induction n6 with
    | zero => intro m0_6 l1_6 H locs ls h; exact absurd h (by simp [G_X9_broken_L6])
    | succ n6 ih6 =>
      intro m0_6 l1_6 H locs ls h hP hD hS hl
      rw [G_X9_broken_L6] at h
      refine lv_iload_n hx hb dX9_broken_6 rfl (lv_at hl 0 rfl) ?_
      refine lv_aload_n hx hb dX9_broken_7 rfl (lv_at hl 1 rfl) ?_
      refine va_get (D := (dC, dI)) (ci := 4) (v := .int (m_sides m0_6)) (C := RX9) (T := TX9) (N := 18) hx hb htg inX9 hown hK hP 0 rfl rfl 10 (by decide) (htg _ gw860) (fun _ h9 => h9) rfl dX9_broken_8 ?_
      refine lv_icmp_ge (tgt := 52) hx hb dX9_broken_11 (by decide) (fun c11 => ?_) (fun c11 => ?_)
      · replace h := if_t h c11
        refine lv_iconst (v := 0) hx hb dX9_broken_52 (by decide) ?_
        refine lv_istore_n (lv' := [(1, .int 0), (0, .ref (a0 0))]) hx hb dX9_broken_53 rfl hl (by decide) rfl (fun ls hl => ?_)
        have hL54 : ∀ (n54 : Nat) (m0_54 : Mod) (l1_54 : Int32) (H : Heap) (locs : List Loc) (ls : Array Slot), G_X9_broken_L54 n54 m0_54 l1_54 = some res → va_P (dC, dI) vwCl (wMod a0 cy m0_54) H → va_D A (wMod a0 cy m0_54) → va_S A s.heap H locs → lv_has ls 5 [(1, .int l1_54), (0, .ref (a0 0))] → W p l e rm_X9_broken s mm args below meth cd H locs 0 0 Q (F0 mm 54 ls []) := by
          intro n54
          induction n54 with
          | zero => intro m0_54 l1_54 H locs ls h; exact absurd h (by simp [G_X9_broken_L54])
          | succ n54 ih54 =>
            intro m0_54 l1_54 H locs ls h hP hD hS hl
            rw [G_X9_broken_L54] at h
            refine lv_iload_n hx hb dX9_broken_54 rfl (lv_at hl 0 rfl) ?_
            refine lv_aload_n hx hb dX9_broken_55 rfl (lv_at hl 1 rfl) ?_
            refine va_get (D := (dC, dI)) (ci := 4) (v := .int (m_sides m0_54)) (C := RX9) (T := TX9) (N := 18) hx hb htg inX9 hown hK hP 0 rfl rfl 10 (by decide) (htg _ gw860) (fun _ h9 => h9) rfl dX9_broken_56 ?_
            refine lv_icmp_ge (tgt := 100) hx hb dX9_broken_59 (by decide) (fun c59 => ?_) (fun c59 => ?_)
            · replace h := if_t h c59
              refine lv_iconst (v := 0) hx hb dX9_broken_100 (by decide) ?_
              refine lv_istore_n (lv' := [(1, .int 0), (0, .ref (a0 0))]) hx hb dX9_broken_101 rfl hl (by decide) rfl (fun ls hl => ?_)
              refine lv_iconst (v := 0) hx hb dX9_broken_102 (by decide) ?_
              refine lv_istore_n (lv' := [(2, .int 0), (1, .int 0), (0, .ref (a0 0))]) hx hb dX9_broken_103 rfl hl (by decide) rfl (fun ls hl => ?_)
              refine lv_iconst (v := 0) hx hb dX9_broken_104 (by decide) ?_
              refine lv_istore_n (lv' := [(3, .int 0), (2, .int 0), (1, .int 0), (0, .ref (a0 0))]) hx hb dX9_broken_105 rfl hl (by decide) rfl (fun ls hl => ?_)
              have hL106 : ∀ (n106 : Nat) (m0_106 : Mod) (l3_106 : Int32) (l2_106 : Int32) (l1_106 : Int32) (H : Heap) (locs : List Loc) (ls : Array Slot), G_X9_broken_L106 n106 m0_106 l3_106 l2_106 l1_106 = some res → va_P (dC, dI) vwCl (wMod a0 cy m0_106) H → va_D A (wMod a0 cy m0_106) → va_S A s.heap H locs → lv_has ls 5 [(3, .int l3_106), (2, .int l2_106), (1, .int l1_106), (0, .ref (a0 0))] → W p l e rm_X9_broken s mm args below meth cd H locs 0 0 Q (F0 mm 106 ls []) := by
                intro n106
                induction n106 with
                | zero => intro m0_106 l3_106 l2_106 l1_106 H locs ls h; exact absurd h (by simp [G_X9_broken_L106])
                | succ n106 ih106 =>
                  intro m0_106 l3_106 l2_106 l1_106 H locs ls h hP hD hS hl
                  rw [G_X9_broken_L106] at h
                  refine lv_iload_n hx hb dX9_broken_106 rfl (lv_at hl 0 rfl) ?_
                  refine lv_aload_n hx hb dX9_broken_107 rfl (lv_at hl 3 rfl) ?_
                  refine va_get (D := (dC, dI)) (ci := 4) (v := .int (m_sides m0_106)) (C := RX9) (T := TX9) (N := 18) hx hb htg inX9 hown hK hP 0 rfl rfl 10 (by decide) (htg _ gw860) (fun _ h9 => h9) rfl dX9_broken_108 ?_
                  refine lv_icmp_ge (tgt := 201) hx hb dX9_broken_111 (by decide) (fun c111 => ?_) (fun c111 => ?_)
                  · replace h := if_t h c111
                    refine lv_iload_n hx hb dX9_broken_201 rfl (lv_at hl 2 rfl) ?_
                    refine lv_if_eq (tgt := 209) hx hb dX9_broken_202 (by decide) (fun c202 => ?_) (fun c202 => ?_)
                    · replace h := if_t h c202
                      refine lv_iload_n hx hb dX9_broken_209 rfl (lv_at hl 1 rfl) ?_
                      refine lv_if_eq (tgt := 217) hx hb dX9_broken_210 (by decide) (fun c210 => ?_) (fun c210 => ?_)
                      · replace h := if_t h c210
                        refine lv_aload_n hx hb dX9_broken_217 rfl (lv_at hl 3 rfl) ?_
                        obtain ⟨v218, e218, h⟩ := bnd h
                        refine cV (av := []) (rest := []) (st1 := [.int v218]) (k1 := 0) (k2 := 0) (ci := 4) (q0 := 0) hx hb hml hown htg hN hK (c_X9_isRule5 l dC dI cy a0 m0_106  v218 e218) (g_V gw984 gw986 gw20 gw63 gw987) hdV_X9_isRule5 rfl ⟨⟨Nat.le_of_ble_eq_true rfl, Nat.le_of_ble_eq_true rfl⟩, Nat.le_of_ble_eq_true rfl, Nat.le_of_ble_eq_true rfl⟩ hP hD hS hA ⟨rfl, rfl⟩ rfl [0, 1, 2, 3, 4, 5, 6, 7, 8, 9, 10, 11, 12, 13, 14] [] rfl rfl rfl (by decide) (by decide) hl.1 rfl (Nat.le_of_ble_eq_true rfl) rfl rfl rfl dX9_broken_218 (fun H locs hP hD hS => ?_)
                        have hP : va_P (dC, dI) vwCl (wMod a0 cy m0_106) H := hP
                        have hD : va_D A (wMod a0 cy m0_106) := hD
                        refine lv_if_eq (tgt := 228) hx hb dX9_broken_221 (by decide) (fun c221 => ?_) (fun c221 => ?_)
                        · replace h := if_t h c221
                          refine lv_iconst (v := 5) hx hb dX9_broken_228 (by decide) ?_
                          obtain rfl := Option.some.inj h
                          exact hE H locs 229 ls _ hP hD hS rfl dX9_broken_229
                        replace h := if_f h c221
                        refine lv_iconst (v := 0) hx hb dX9_broken_224 (by decide) ?_
                        refine lv_goto (tgt := 229) hx hb dX9_broken_225 (by decide) ?_
                        obtain rfl := Option.some.inj h
                        exact hE H locs 229 ls _ hP hD hS rfl dX9_broken_229
                      replace h := if_f h c210
                      refine lv_iconst (v := 4) hx hb dX9_broken_213 (by decide) ?_
                      refine lv_goto (tgt := 229) hx hb dX9_broken_214 (by decide) ?_
                      obtain rfl := Option.some.inj h
                      exact hE H locs 229 ls _ hP hD hS rfl dX9_broken_229
                    replace h := if_f h c202
                    refine lv_iconst (v := 3) hx hb dX9_broken_205 (by decide) ?_
                    refine lv_goto (tgt := 229) hx hb dX9_broken_206 (by decide) ?_
                    obtain rfl := Option.some.inj h
                    exact hE H locs 229 ls _ hP hD hS rfl dX9_broken_229
                  replace h := if_f h c111
                  refine lv_iconst (v := 0) hx hb dX9_broken_114 (by decide) ?_
                  refine lv_istore (lv' := [(4, .int 0), (3, .int l3_106), (2, .int l2_106), (1, .int l1_106), (0, .ref (a0 0))]) hx hb dX9_broken_115 hl (by decide) rfl (fun ls hl => ?_)
                  have hL117 : ∀ (n117 : Nat) (m0_117 : Mod) (l4_117 : Int32) (l3_117 : Int32) (l2_117 : Int32) (l1_117 : Int32) (H : Heap) (locs : List Loc) (ls : Array Slot), G_X9_broken_L117 (G_X9_broken_L106 n106) n117 m0_117 l4_117 l3_117 l2_117 l1_117 = some res → va_P (dC, dI) vwCl (wMod a0 cy m0_117) H → va_D A (wMod a0 cy m0_117) → va_S A s.heap H locs → lv_has ls 5 [(4, .int l4_117), (3, .int l3_117), (2, .int l2_117), (1, .int l1_117), (0, .ref (a0 0))] → W p l e rm_X9_broken s mm args below meth cd H locs 0 0 Q (F0 mm 117 ls []) := by
                    intro n117
                    induction n117 with
                    | zero => intro m0_117 l4_117 l3_117 l2_117 l1_117 H locs ls h; exact absurd h (by simp [G_X9_broken_L117])
                    | succ n117 ih117 =>
                      intro m0_117 l4_117 l3_117 l2_117 l1_117 H locs ls h hP hD hS hl
                      rw [G_X9_broken_L117] at h
                      refine lv_iload hx hb dX9_broken_117 (lv_at hl 0 rfl) ?_
                      refine lv_iload_n hx hb dX9_broken_119 rfl (lv_at hl 1 rfl) ?_
                      refine lv_icmp_ge (tgt := 195) hx hb dX9_broken_120 (by decide) (fun c120 => ?_) (fun c120 => ?_)
                      · replace h := if_t h c120
                        refine lv_iinc (v := l3_117 + 1) (lv' := [(3, .int (l3_117 + 1)), (4, .int l4_117), (2, .int l2_117), (1, .int l1_117), (0, .ref (a0 0))]) hx hb dX9_broken_195 hl (k := 1) rfl rfl (by decide) rfl (fun ls hl => ?_)
                        refine lv_goto (tgt := 106) hx hb dX9_broken_198 (by decide) ?_
                        exact ih106 m0_117 (l3_117 + 1) l2_117 l1_117 H locs ls h hP hD hS (lv_sub hl [0, 2, 3, 4] rfl)
                      replace h := if_f h c120
                      refine lv_iload_n hx hb dX9_broken_123 rfl (lv_at hl 3 rfl) ?_
                      obtain ⟨b124, e124, h⟩ := bnd h
                      have hr168 : ∀ (H : Heap) (locs : List Loc) (ls : Array Slot), va_P (dC, dI) vwCl (wMod a0 cy m0_117) H → va_D A (wMod a0 cy m0_117) → va_S A s.heap H locs → lv_has ls 5 [(4, .int l4_117), (3, .int l3_117), (2, .int l2_117), (1, .int l1_117), (0, .ref (a0 0))] → W p l e rm_X9_broken s mm args below meth cd H locs 0 0 Q (F0 mm 168 ls [.int b124]) := by
                        intro H locs ls hP hD hS hl
                        refine lv_istore_n (lv' := [(1, .int b124), (4, .int l4_117), (3, .int l3_117), (2, .int l2_117), (0, .ref (a0 0))]) hx hb dX9_broken_168 rfl hl (by decide) rfl (fun ls hl => ?_)
                        refine lv_iload_n hx hb dX9_broken_169 rfl (lv_at hl 3 rfl) ?_
                        obtain ⟨b170, e170, h⟩ := bnd h
                        have hr188 : ∀ (H : Heap) (locs : List Loc) (ls : Array Slot), va_P (dC, dI) vwCl (wMod a0 cy m0_117) H → va_D A (wMod a0 cy m0_117) → va_S A s.heap H locs → lv_has ls 5 [(1, .int b124), (4, .int l4_117), (3, .int l3_117), (2, .int l2_117), (0, .ref (a0 0))] → W p l e rm_X9_broken s mm args below meth cd H locs 0 0 Q (F0 mm 188 ls [.int b170]) := by
                          intro H locs ls hP hD hS hl
                          refine lv_istore_n (lv' := [(2, .int b170), (1, .int b124), (4, .int l4_117), (3, .int l3_117), (0, .ref (a0 0))]) hx hb dX9_broken_188 rfl hl (by decide) rfl (fun ls hl => ?_)
                          refine lv_iinc (v := l4_117 + 1) (lv' := [(4, .int (l4_117 + 1)), (2, .int b170), (1, .int b124), (3, .int l3_117), (0, .ref (a0 0))]) hx hb dX9_broken_189 hl (k := 2) rfl rfl (by decide) rfl (fun ls hl => ?_)
                          refine lv_goto (tgt := 117) hx hb dX9_broken_192 (by decide) ?_
                          exact ih117 m0_117 (l4_117 + 1) l3_117 b170 b124 H locs ls h hP hD hS (lv_sub hl [0, 3, 1, 2, 4] rfl)
                        have h := e170
                        clear e170
                        refine lv_if_ne (tgt := 183) hx hb dX9_broken_170 (by decide) (fun c170 => ?_) (fun c170 => ?_)
                        · replace h := if_f h c170
                          refine lv_iconst (v := 1) hx hb dX9_broken_183 (by decide) ?_
                          refine lv_goto (tgt := 188) hx hb dX9_broken_184 (by decide) ?_
                          obtain rfl := Option.some.inj h
                          exact hr188 H locs ls hP hD hS hl
                        replace h := if_t h c170
                        refine lv_aload_n hx hb dX9_broken_173 rfl (lv_at hl 4 rfl) ?_
                        refine lv_iload_n hx hb dX9_broken_174 rfl (lv_at hl 2 rfl) ?_
                        refine lv_iload hx hb dX9_broken_175 (lv_at hl 1 rfl) ?_
                        obtain ⟨v177, e177, h⟩ := bnd h
                        refine cV (av := [.int l3_117, .int l4_117]) (rest := []) (st1 := [.int v177]) (k1 := 0) (k2 := 0) (ci := 4) (q0 := 0) hx hb hml hown htg hN hK (c_X9_areTouching l dC dI cy a0 m0_117 l3_117 l4_117 v177 e177) (g_V gw966 gw968 gw17 gw63 gw969) hdV_X9_areTouching rfl ⟨⟨Nat.le_of_ble_eq_true rfl, Nat.le_of_ble_eq_true rfl⟩, Nat.le_of_ble_eq_true rfl, Nat.le_of_ble_eq_true rfl⟩ hP hD hS hA ⟨rfl, rfl⟩ rfl [0, 1, 2, 3, 4, 5, 6, 7, 8, 9, 10, 11, 12, 13, 14] [] rfl rfl rfl (by decide) (by decide) hl.1 rfl (Nat.le_of_ble_eq_true rfl) rfl rfl rfl dX9_broken_177 (fun H locs hP hD hS => ?_)
                        have hP : va_P (dC, dI) vwCl (wMod a0 cy m0_117) H := hP
                        have hD : va_D A (wMod a0 cy m0_117) := hD
                        refine lv_if_eq (tgt := 187) hx hb dX9_broken_180 (by decide) (fun c180 => ?_) (fun c180 => ?_)
                        · replace h := if_t h c180
                          refine lv_iconst (v := 0) hx hb dX9_broken_187 (by decide) ?_
                          obtain rfl := Option.some.inj h
                          exact hr188 H locs ls hP hD hS hl
                        replace h := if_f h c180
                        refine lv_iconst (v := 1) hx hb dX9_broken_183 (by decide) ?_
                        refine lv_goto (tgt := 188) hx hb dX9_broken_184 (by decide) ?_
                        obtain rfl := Option.some.inj h
                        exact hr188 H locs ls hP hD hS hl
                      have h := e124
                      clear e124
                      refine lv_if_ne (tgt := 163) hx hb dX9_broken_124 (by decide) (fun c124 => ?_) (fun c124 => ?_)
                      · replace h := if_f h c124
                        refine lv_iconst (v := 1) hx hb dX9_broken_163 (by decide) ?_
                        refine lv_goto (tgt := 168) hx hb dX9_broken_164 (by decide) ?_
                        obtain rfl := Option.some.inj h
                        exact hr168 H locs ls hP hD hS hl
                      replace h := if_t h c124
                      refine lv_aload_n hx hb dX9_broken_127 rfl (lv_at hl 4 rfl) ?_
                      refine lv_iload_n hx hb dX9_broken_128 rfl (lv_at hl 1 rfl) ?_
                      refine lv_aload_n hx hb dX9_broken_129 rfl (lv_at hl 4 rfl) ?_
                      refine va_get (D := (dC, dI)) (ci := 4) (v := .ref (a0 10)) (C := RX9) (T := TX9) (N := 18) hx hb htg inX9 hown hK hP 0 rfl rfl 13 (by decide) (htg _ gw863) (fun _ h9 => h9) rfl dX9_broken_130 ?_
                      refine lv_iload hx hb dX9_broken_133 (lv_at hl 0 rfl) ?_
                      obtain ⟨v135, e135, h⟩ := bnd h
                      refine x_iald (v := v135) hx hb hK hP 10 0 rfl rfl e135 dX9_broken_135 ?_
                      refine lv_aload_n hx hb dX9_broken_136 rfl (lv_at hl 4 rfl) ?_
                      refine va_get (D := (dC, dI)) (ci := 4) (v := .ref (a0 11)) (C := RX9) (T := TX9) (N := 18) hx hb htg inX9 hown hK hP 0 rfl rfl 14 (by decide) (htg _ gw864) (fun _ h9 => h9) rfl dX9_broken_137 ?_
                      refine lv_iload hx hb dX9_broken_140 (lv_at hl 0 rfl) ?_
                      obtain ⟨v142, e142, h⟩ := bnd h
                      refine x_iald (v := v142) hx hb hK hP 11 0 rfl rfl e142 dX9_broken_142 ?_
                      refine lv_aload_n hx hb dX9_broken_143 rfl (lv_at hl 4 rfl) ?_
                      refine va_get (D := (dC, dI)) (ci := 4) (v := .ref (a0 12)) (C := RX9) (T := TX9) (N := 18) hx hb htg inX9 hown hK hP 0 rfl rfl 15 (by decide) (htg _ gw865) (fun _ h9 => h9) rfl dX9_broken_144 ?_
                      refine lv_iload hx hb dX9_broken_147 (lv_at hl 0 rfl) ?_
                      obtain ⟨v149, e149, h⟩ := bnd h
                      refine x_iald (v := v149) hx hb hK hP 12 0 rfl rfl e149 dX9_broken_149 ?_
                      refine lv_aload_n hx hb dX9_broken_150 rfl (lv_at hl 4 rfl) ?_
                      refine va_get (D := (dC, dI)) (ci := 4) (v := .ref (a0 13)) (C := RX9) (T := TX9) (N := 18) hx hb htg inX9 hown hK hP 0 rfl rfl 16 (by decide) (htg _ gw866) (fun _ h9 => h9) rfl dX9_broken_151 ?_
                      refine lv_iload hx hb dX9_broken_154 (lv_at hl 0 rfl) ?_
                      obtain ⟨v156, e156, h⟩ := bnd h
                      refine x_iald (v := v156) hx hb hK hP 13 0 rfl rfl e156 dX9_broken_156 ?_
                      obtain ⟨v157, e157, h⟩ := bnd h
                      refine cV (av := [.int l3_117, .int v135, .int v142, .int v149, .int v156]) (rest := []) (st1 := [.int v157]) (k1 := 0) (k2 := 0) (ci := 4) (q0 := 0) hx hb hml hown htg hN hK (c_X9_isCrossed l dC dI cy a0 m0_117 l3_117 v135 v142 v149 v156 v157 e157) (g_V gw959 gw961 gw16 gw63 gw962) hdV_X9_isCrossed rfl ⟨⟨Nat.le_of_ble_eq_true rfl, Nat.le_of_ble_eq_true rfl⟩, Nat.le_of_ble_eq_true rfl, Nat.le_of_ble_eq_true rfl⟩ hP hD hS hA ⟨rfl, rfl⟩ rfl [0, 1, 2, 3, 4, 5, 6, 7, 8, 9, 10, 11, 12, 13, 14] [] rfl rfl rfl (by decide) (by decide) hl.1 rfl (Nat.le_of_ble_eq_true rfl) rfl rfl rfl dX9_broken_157 (fun H locs hP hD hS => ?_)
                      have hP : va_P (dC, dI) vwCl (wMod a0 cy m0_117) H := hP
                      have hD : va_D A (wMod a0 cy m0_117) := hD
                      refine lv_if_eq (tgt := 167) hx hb dX9_broken_160 (by decide) (fun c160 => ?_) (fun c160 => ?_)
                      · replace h := if_t h c160
                        refine lv_iconst (v := 0) hx hb dX9_broken_167 (by decide) ?_
                        obtain rfl := Option.some.inj h
                        exact hr168 H locs ls hP hD hS hl
                      replace h := if_f h c160
                      refine lv_iconst (v := 1) hx hb dX9_broken_163 (by decide) ?_
                      refine lv_goto (tgt := 168) hx hb dX9_broken_164 (by decide) ?_
                      obtain rfl := Option.some.inj h
                      exact hr168 H locs ls hP hD hS hl
                  exact hL117 FU m0_106 0 l3_106 l2_106 l1_106 H locs ls h hP hD hS (lv_sub hl [0, 1, 2, 3, 4] rfl)
              exact hL106 FU m0_54 0 0 0 H locs ls h hP hD hS (lv_sub hl [0, 1, 2, 3] rfl)
            replace h := if_f h c59
            refine lv_aload_n hx hb dX9_broken_62 rfl (lv_at hl 1 rfl) ?_
            refine va_get (D := (dC, dI)) (ci := 4) (v := .ref (a0 10)) (C := RX9) (T := TX9) (N := 18) hx hb htg inX9 hown hK hP 0 rfl rfl 13 (by decide) (htg _ gw863) (fun _ h9 => h9) rfl dX9_broken_63 ?_
            refine lv_iload_n hx hb dX9_broken_66 rfl (lv_at hl 0 rfl) ?_
            obtain ⟨v67, e67, h⟩ := bnd h
            refine x_iald (v := v67) hx hb hK hP 10 0 rfl rfl e67 dX9_broken_67 ?_
            refine lv_aload_n hx hb dX9_broken_68 rfl (lv_at hl 1 rfl) ?_
            refine va_get (D := (dC, dI)) (ci := 4) (v := .ref (a0 12)) (C := RX9) (T := TX9) (N := 18) hx hb htg inX9 hown hK hP 0 rfl rfl 15 (by decide) (htg _ gw865) (fun _ h9 => h9) rfl dX9_broken_69 ?_
            refine lv_iload_n hx hb dX9_broken_72 rfl (lv_at hl 0 rfl) ?_
            obtain ⟨v73, e73, h⟩ := bnd h
            refine x_iald (v := v73) hx hb hK hP 12 0 rfl rfl e73 dX9_broken_73 ?_
            have hj94 : ∀ (m0_94 : Mod) (l1_94 : Int32) (H : Heap) (locs : List Loc) (ls : Array Slot), G_X9_broken_j94 (G_X9_broken_L54 n54) m0_94 l1_94 = some res → va_P (dC, dI) vwCl (wMod a0 cy m0_94) H → va_D A (wMod a0 cy m0_94) → va_S A s.heap H locs → lv_has ls 5 [(1, .int l1_94), (0, .ref (a0 0))] → W p l e rm_X9_broken s mm args below meth cd H locs 0 0 Q (F0 mm 94 ls []) := by
              intro m0_94 l1_94 H locs ls h hP hD hS hl
              unfold G_X9_broken_j94 at h
              refine lv_iinc (v := l1_94 + 1) (lv' := [(1, .int (l1_94 + 1)), (0, .ref (a0 0))]) hx hb dX9_broken_94 hl (k := 0) rfl rfl (by decide) rfl (fun ls hl => ?_)
              refine lv_goto (tgt := 54) hx hb dX9_broken_97 (by decide) ?_
              exact ih54 m0_94 (l1_94 + 1) H locs ls h hP hD hS (lv_sub hl [0, 1] rfl)
            refine lv_icmp_ne (tgt := 94) hx hb dX9_broken_74 (by decide) (fun c74 => ?_) (fun c74 => ?_)
            · replace h := if_f h c74
              exact hj94 m0_54 l1_54 H locs ls h hP hD hS (lv_sub hl [0, 1] rfl)
            replace h := if_t h c74
            refine lv_aload_n hx hb dX9_broken_77 rfl (lv_at hl 1 rfl) ?_
            refine va_get (D := (dC, dI)) (ci := 4) (v := .ref (a0 11)) (C := RX9) (T := TX9) (N := 18) hx hb htg inX9 hown hK hP 0 rfl rfl 14 (by decide) (htg _ gw864) (fun _ h9 => h9) rfl dX9_broken_78 ?_
            refine lv_iload_n hx hb dX9_broken_81 rfl (lv_at hl 0 rfl) ?_
            obtain ⟨v82, e82, h⟩ := bnd h
            refine x_iald (v := v82) hx hb hK hP 11 0 rfl rfl e82 dX9_broken_82 ?_
            refine lv_aload_n hx hb dX9_broken_83 rfl (lv_at hl 1 rfl) ?_
            refine va_get (D := (dC, dI)) (ci := 4) (v := .ref (a0 13)) (C := RX9) (T := TX9) (N := 18) hx hb htg inX9 hown hK hP 0 rfl rfl 16 (by decide) (htg _ gw866) (fun _ h9 => h9) rfl dX9_broken_84 ?_
            refine lv_iload_n hx hb dX9_broken_87 rfl (lv_at hl 0 rfl) ?_
            obtain ⟨v88, e88, h⟩ := bnd h
            refine x_iald (v := v88) hx hb hK hP 13 0 rfl rfl e88 dX9_broken_88 ?_
            refine lv_icmp_ne (tgt := 94) hx hb dX9_broken_89 (by decide) (fun c89 => ?_) (fun c89 => ?_)
            · replace h := if_f h c89
              exact hj94 m0_54 l1_54 H locs ls h hP hD hS (lv_sub hl [0, 1] rfl)
            replace h := if_t h c89
            refine lv_iconst (v := 2) hx hb dX9_broken_92 (by decide) ?_
            obtain rfl := Option.some.inj h
            exact hE H locs 93 ls _ hP hD hS rfl dX9_broken_93
        exact hL54 FU m0_6 0 H locs ls h hP hD hS (lv_sub hl [0, 1] rfl)
      replace h := if_f h c11
      refine lv_aload_n hx hb dX9_broken_14 rfl (lv_at hl 1 rfl) ?_
      refine va_get (D := (dC, dI)) (ci := 4) (v := .ref (a0 10)) (C := RX9) (T := TX9) (N := 18) hx hb htg inX9 hown hK hP 0 rfl rfl 13 (by decide) (htg _ gw863) (fun _ h9 => h9) rfl dX9_broken_15 ?_
      refine lv_iload_n hx hb dX9_broken_18 rfl (lv_at hl 0 rfl) ?_
      obtain ⟨v19, e19, h⟩ := bnd h
      refine x_iald (v := v19) hx hb hK hP 10 0 rfl rfl e19 dX9_broken_19 ?_
      refine lv_iconst (v := 0) hx hb dX9_broken_20 (by decide) ?_
      refine lv_bipush (v := 15) hx hb dX9_broken_21 (by decide) ?_
      obtain ⟨v23, e23, h⟩ := bnd h
      refine cS (av := [.int v19, .int 0, .int 15]) (rest := []) (st1 := [.int v23]) (k1 := 0) (k2 := 0) hx hb hml hown htg hN hK (c_X9_within l dC dI cy   v19 0 15 v23 e23) (g_S gw913 gw914 gw63 gw915) hdS_X9_within rfl ⟨⟨Nat.le_of_ble_eq_true rfl, Nat.le_of_ble_eq_true rfl⟩, Nat.le_of_ble_eq_true rfl, Nat.le_of_ble_eq_true rfl⟩ hP hD hS hA [] [0, 1, 2, 3, 4, 5, 6, 7, 8, 9, 10, 11, 12, 13, 14] rfl rfl rfl (by decide) (by decide) hl.1 rfl (Nat.le_of_ble_eq_true rfl) rfl rfl rfl dX9_broken_23 (fun H locs hP hD hS => ?_)
      obtain ⟨hP, hD⟩ := x_perm (ws' := wMod a0 cy m0_6) hP hD [0, 1, 2, 3, 4, 5, 6, 7, 8, 9, 10, 11, 12, 13, 14] (by decide) rfl rfl
      refine lv_if_eq (tgt := 44) hx hb dX9_broken_26 (by decide) (fun c26 => ?_) (fun c26 => ?_)
      · replace h := if_t h c26
        refine lv_iconst (v := 1) hx hb dX9_broken_44 (by decide) ?_
        obtain rfl := Option.some.inj h
        exact hE H locs 45 ls _ hP hD hS rfl dX9_broken_45
      replace h := if_f h c26
      refine lv_aload_n hx hb dX9_broken_29 rfl (lv_at hl 1 rfl) ?_
      refine va_get (D := (dC, dI)) (ci := 4) (v := .ref (a0 11)) (C := RX9) (T := TX9) (N := 18) hx hb htg inX9 hown hK hP 0 rfl rfl 14 (by decide) (htg _ gw864) (fun _ h9 => h9) rfl dX9_broken_30 ?_
      refine lv_iload_n hx hb dX9_broken_33 rfl (lv_at hl 0 rfl) ?_
      obtain ⟨v34, e34, h⟩ := bnd h
      refine x_iald (v := v34) hx hb hK hP 11 0 rfl rfl e34 dX9_broken_34 ?_
      refine lv_iconst (v := 0) hx hb dX9_broken_35 (by decide) ?_
      refine lv_bipush (v := 15) hx hb dX9_broken_36 (by decide) ?_
      obtain ⟨v38, e38, h⟩ := bnd h
      refine cS (av := [.int v34, .int 0, .int 15]) (rest := []) (st1 := [.int v38]) (k1 := 0) (k2 := 0) hx hb hml hown htg hN hK (c_X9_within l dC dI cy   v34 0 15 v38 e38) (g_S gw913 gw914 gw63 gw915) hdS_X9_within rfl ⟨⟨Nat.le_of_ble_eq_true rfl, Nat.le_of_ble_eq_true rfl⟩, Nat.le_of_ble_eq_true rfl, Nat.le_of_ble_eq_true rfl⟩ hP hD hS hA [] [0, 1, 2, 3, 4, 5, 6, 7, 8, 9, 10, 11, 12, 13, 14] rfl rfl rfl (by decide) (by decide) hl.1 rfl (Nat.le_of_ble_eq_true rfl) rfl rfl rfl dX9_broken_38 (fun H locs hP hD hS => ?_)
      obtain ⟨hP, hD⟩ := x_perm (ws' := wMod a0 cy m0_6) hP hD [0, 1, 2, 3, 4, 5, 6, 7, 8, 9, 10, 11, 12, 13, 14] (by decide) rfl rfl
      refine lv_if_ne (tgt := 46) hx hb dX9_broken_41 (by decide) (fun c41 => ?_) (fun c41 => ?_)
      · replace h := if_f h c41
        refine lv_iinc (v := l1_6 + 1) (lv' := [(1, .int (l1_6 + 1)), (0, .ref (a0 0))]) hx hb dX9_broken_46 hl (k := 0) rfl rfl (by decide) rfl (fun ls hl => ?_)
        refine lv_goto (tgt := 6) hx hb dX9_broken_49 (by decide) ?_
        exact ih6 m0_6 (l1_6 + 1) H locs ls h hP hD hS (lv_sub hl [0, 1] rfl)
      replace h := if_t h c41
      refine lv_iconst (v := 1) hx hb dX9_broken_44 (by decide) ?_
      obtain rfl := Option.some.inj h
      exact hE H locs 45 ls _ hP hD hS rfl dX9_broken_45
  exact hL6 FU v1 0 H locs ls h hP hD hS (lv_sub hl [0, 1] rfl)
def G_X9_end_j30   (m0_30 : Mod) (l1_30 : Int32) : Option (Int32 × Mod) :=
  if l1_30 = 0 then
    some (2, m0_30)
  else
    some (0, m0_30)
def G_X9_end (m0 : Mod) : Option (Int32 × Mod) :=
  (G_X9_broken m0).bind fun v1 =>
  ((if v1.1 = 0 then
      some 1
    else
      some 0) : Option (Int32)).bind fun b4 =>
  if b4 = 0 then
    (G_X9_copy 85 85 (m_kept v1.2) (m_state v1.2) 0 0).bind fun v27 =>
    G_X9_end_j30 (ms_state v1.2 v27) b4
  else
    G_X9_end_j30 v1.2 b4
abbrev rm_X9_end : Room := { frames := 5, cells := 0, slots := 0, locals := 125 }
theorem hdS_X9_end : yX9_end.cls ≠ "java/lang/invoke/MethodHandle" ∧ yX9_end.cls ≠ "java/lang/invoke/VarHandle" ∧ (parseMethodDescriptor yX9_end.desc).map (fun d => d.parameters.length) = some 0 := by decide +kernel
theorem hdV_X9_end : yX9_end.cls = RX9 ∧ yX9_end.cls ≠ "java/lang/invoke/MethodHandle" ∧ yX9_end.cls ≠ "java/lang/invoke/VarHandle" ∧ (parseMethodDescriptor yX9_end.desc).map (fun d => d.parameters.length) = some 0 := ⟨rfl, hdS_X9_end⟩
set_option maxHeartbeats 4000000 in
set_option maxRecDepth 100000 in
theorem c_X9_end (l : Launch) (dC : Nat → ClassId) (dI : Nat → Nat → Nat) (cy : Nat → ClassId) (a0 : Nat → Nat) (m0 : Mod) (res : Int32 × Mod) (h : G_X9_end m0 = some res) : CT l (dC, dI) (TY cy) yX9_end cX9_end 2 (some .int) rm_X9_end [.ref (a0 0)] (wMod a0 cy m0) (wMod a0 cy res.2) (some (.int res.1)) := by
  refine CT.mk_i (own := RX9) ⟨by decide, rfl⟩ (Nat.le_of_ble_eq_true rfl) ?_
  intro p e s mm args below meth cd A Q hx hb hml hown htg hN hK hA hP hD hS hE ls hl
  have hl : lv_has ls 2 [(0, .ref (a0 0))] := hl
  replace h : _ = some res := h
  unfold G_X9_end at h
  obtain ⟨H, hH⟩ : ∃ H, H = s.heap := ⟨_, rfl⟩
  obtain ⟨locs, hlocs⟩ : ∃ locs : List Loc, locs = [] := ⟨_, rfl⟩
  rw [← hlocs] at hS ⊢
  have hS : va_S A s.heap H locs := by rw [hH]; exact hS
  rw [← hH] at hP ⊢
  refine lv_aload_n hx hb dX9_end_0 rfl (lv_at hl 0 rfl) ?_
  obtain ⟨v1, e1, h⟩ := bnd h
  refine cV (av := []) (rest := []) (st1 := [.int v1.1]) (k1 := 0) (k2 := 0) (ci := 4) (q0 := 0) hx hb hml hown htg hN hK (c_X9_broken l dC dI cy a0 m0  v1 e1) (g_V gw939 gw941 gw11 gw63 gw942) hdV_X9_broken rfl ⟨⟨Nat.le_of_ble_eq_true rfl, Nat.le_of_ble_eq_true rfl⟩, Nat.le_of_ble_eq_true rfl, Nat.le_of_ble_eq_true rfl⟩ hP hD hS hA ⟨rfl, rfl⟩ rfl [0, 1, 2, 3, 4, 5, 6, 7, 8, 9, 10, 11, 12, 13, 14] [] rfl rfl rfl (by decide) (by decide) hl.1 rfl (Nat.le_of_ble_eq_true rfl) rfl rfl rfl dX9_end_1 (fun H locs hP hD hS => ?_)
  have hP : va_P (dC, dI) vwCl (wMod a0 cy v1.2) H := hP
  have hD : va_D A (wMod a0 cy v1.2) := hD
  obtain ⟨b4, e4, h⟩ := bnd h
  have hr12 : ∀ (H : Heap) (locs : List Loc) (ls : Array Slot), va_P (dC, dI) vwCl (wMod a0 cy v1.2) H → va_D A (wMod a0 cy v1.2) → va_S A s.heap H locs → lv_has ls 2 [(0, .ref (a0 0))] → W p l e rm_X9_end s mm args below meth cd H locs 0 0 Q (F0 mm 12 ls [.int b4]) := by
    intro H locs ls hP hD hS hl
    refine lv_istore_n (lv' := [(1, .int b4), (0, .ref (a0 0))]) hx hb dX9_end_12 rfl hl (by decide) rfl (fun ls hl => ?_)
    refine lv_iload_n hx hb dX9_end_13 rfl (lv_at hl 0 rfl) ?_
    have hj30 : ∀ (m0_30 : Mod) (l1_30 : Int32) (H : Heap) (locs : List Loc) (ls : Array Slot), G_X9_end_j30 m0_30 l1_30 = some res → va_P (dC, dI) vwCl (wMod a0 cy m0_30) H → va_D A (wMod a0 cy m0_30) → va_S A s.heap H locs → lv_has ls 2 [(1, .int l1_30)] → W p l e rm_X9_end s mm args below meth cd H locs 0 0 Q (F0 mm 30 ls []) := by
      intro m0_30 l1_30 H locs ls h hP hD hS hl
      unfold G_X9_end_j30 at h
      refine lv_iload_n hx hb dX9_end_30 rfl (lv_at hl 0 rfl) ?_
      refine lv_if_eq (tgt := 38) hx hb dX9_end_31 (by decide) (fun c31 => ?_) (fun c31 => ?_)
      · replace h := if_t h c31
        refine lv_iconst (v := 2) hx hb dX9_end_38 (by decide) ?_
        obtain rfl := Option.some.inj h
        exact hE H locs 39 ls _ hP hD hS rfl dX9_end_39
      replace h := if_f h c31
      refine lv_iconst (v := 0) hx hb dX9_end_34 (by decide) ?_
      refine lv_goto (tgt := 39) hx hb dX9_end_35 (by decide) ?_
      obtain rfl := Option.some.inj h
      exact hE H locs 39 ls _ hP hD hS rfl dX9_end_39
    refine lv_if_ne (tgt := 30) hx hb dX9_end_14 (by decide) (fun c14 => ?_) (fun c14 => ?_)
    · replace h := if_f h c14
      exact hj30 v1.2 b4 H locs ls h hP hD hS (lv_sub hl [0] rfl)
    replace h := if_t h c14
    refine lv_aload_n hx hb dX9_end_17 rfl (lv_at hl 1 rfl) ?_
    refine va_get (D := (dC, dI)) (ci := 4) (v := .ref (a0 2)) (C := RX9) (T := TX9) (N := 18) hx hb htg inX9 hown hK hP 0 rfl rfl 2 (by decide) (htg _ gw852) (fun _ h9 => h9) rfl dX9_end_18 ?_
    refine lv_iconst (v := 0) hx hb dX9_end_21 (by decide) ?_
    refine lv_aload_n hx hb dX9_end_22 rfl (lv_at hl 1 rfl) ?_
    refine va_get (D := (dC, dI)) (ci := 4) (v := .ref (a0 1)) (C := RX9) (T := TX9) (N := 18) hx hb htg inX9 hown hK hP 0 rfl rfl 1 (by decide) (htg _ gw851) (fun _ h9 => h9) rfl dX9_end_23 ?_
    refine lv_iconst (v := 0) hx hb dX9_end_26 (by decide) ?_
    obtain ⟨v27, e27, h⟩ := bnd h
    refine cS (av := [.ref (a0 2), .int 0, .ref (a0 1), .int 0]) (rest := []) (st1 := []) (k1 := 0) (k2 := 0) hx hb hml hown htg hN hK (c_X9_copy l dC dI cy (a0 2) (a0 1) 85 85 (m_kept v1.2) (m_state v1.2) 0 0 v27 e27) (g_S gw924 gw925 gw63 gw926) hdS_X9_copy rfl ⟨⟨Nat.le_of_ble_eq_true rfl, Nat.le_of_ble_eq_true rfl⟩, Nat.le_of_ble_eq_true rfl, Nat.le_of_ble_eq_true rfl⟩ hP hD hS hA [2, 1] [0, 3, 4, 5, 6, 7, 8, 9, 10, 11, 12, 13, 14] rfl rfl rfl (by decide) (by decide) hl.1 rfl (Nat.le_of_ble_eq_true rfl) rfl rfl rfl dX9_end_27 (fun H locs hP hD hS => ?_)
    obtain ⟨hP, hD⟩ := x_perm (ws' := wMod a0 cy (ms_state v1.2 v27)) hP hD [0, 14, 13, 1, 2, 3, 4, 5, 6, 7, 8, 9, 10, 11, 12] (by decide) rfl rfl
    exact hj30 (ms_state v1.2 v27) b4 H locs ls h hP hD hS (lv_sub hl [0] rfl)
  have h := e4
  clear e4
  refine lv_if_ne (tgt := 11) hx hb dX9_end_4 (by decide) (fun c4 => ?_) (fun c4 => ?_)
  · replace h := if_f h c4
    refine lv_iconst (v := 0) hx hb dX9_end_11 (by decide) ?_
    obtain rfl := Option.some.inj h
    exact hr12 H locs ls hP hD hS hl
  replace h := if_t h c4
  refine lv_iconst (v := 1) hx hb dX9_end_7 (by decide) ?_
  refine lv_goto (tgt := 12) hx hb dX9_end_8 (by decide) ?_
  obtain rfl := Option.some.inj h
  exact hr12 H locs ls hP hD hS hl
