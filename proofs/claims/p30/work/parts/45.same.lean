def G_L_same_j543 (r413 : Int32 → Int32 → Int32 → Int32 → Int32 → Int32 → Int32 → Int32 → Int32 → Option (Int32)) (N2 : Nat) (N3 : Nat) (N4 : Nat) (F : Fig) (w2 : Nat → Int32) (w3 : Nat → Int32) (w4 : Nat → Int32) (l14_543 : Int32) (l13_543 : Int32) (l12_543 : Int32) (l11_543 : Int32) (l10_543 : Int32) (l9_543 : Int32) (l8_543 : Int32) (l7_543 : Int32) (l6_543 : Int32) (l5_543 : Int32) (l1_543 : Int32) : Option (Int32) :=
  r413 (l12_543 + 1) (l11_543 + l14_543) (l10_543 + l13_543) l9_543 l8_543 l7_543 l6_543 l5_543 l1_543
def G_L_same_j502 (r429 : Int32 → Int32 → Int32 → Int32 → Int32 → Int32 → Int32 → Int32 → Int32 → Int32 → Int32 → Int32 → Option (Int32)) (N2 : Nat) (N3 : Nat) (N4 : Nat) (F : Fig) (w2 : Nat → Int32) (w3 : Nat → Int32) (w4 : Nat → Int32) (l14_502 : Int32) (l13_502 : Int32) (l15_502 : Int32) (l12_502 : Int32) (l11_502 : Int32) (l10_502 : Int32) (l9_502 : Int32) (l8_502 : Int32) (l7_502 : Int32) (l6_502 : Int32) (l5_502 : Int32) (l1_502 : Int32) : Option (Int32) :=
  r429 (l15_502 + 1) l14_502 l13_502 l12_502 l11_502 l10_502 l9_502 l8_502 l7_502 l6_502 l5_502 l1_502
def G_L_same_L429 (r413 : Int32 → Int32 → Int32 → Int32 → Int32 → Int32 → Int32 → Int32 → Int32 → Option (Int32)) (N2 : Nat) (N3 : Nat) (N4 : Nat) (F : Fig) (w2 : Nat → Int32) (w3 : Nat → Int32) (w4 : Nat → Int32) : Nat → Int32 → Int32 → Int32 → Int32 → Int32 → Int32 → Int32 → Int32 → Int32 → Int32 → Int32 → Int32 → Option (Int32)
  | 0, _, _, _, _, _, _, _, _, _, _, _, _ => none
  | n429 + 1, l15_429, l14_429, l13_429, l12_429, l11_429, l10_429, l9_429, l8_429, l7_429, l6_429, l5_429, l1_429 =>
    if 16 ≤ l15_429 then
      if l12_429 = l1_429 then
        (G_X8_inRow F l12_429 0).bind fun v518 =>
        match v518 with
        | .inl _ => none
        | .inr u518 =>
          if u518 = l13_429 then
            (G_X8_inRow F l12_429 1).bind fun v530 =>
            match v530 with
            | .inl _ => none
            | .inr u530 =>
              if u530 = l13_429 + l14_429 then
                G_L_same_j543 r413 N2 N3 N4 F w2 w3 w4 l14_429 l13_429 l12_429 l11_429 l10_429 l9_429 l8_429 l7_429 l6_429 l5_429 l1_429
              else
                some 0
          else
            some 0
      else
        G_L_same_j543 r413 N2 N3 N4 F w2 w3 w4 l14_429 l13_429 l12_429 l11_429 l10_429 l9_429 l8_429 l7_429 l6_429 l5_429 l1_429
    else
      (G_L_where N2 N3 N4 w2 w3 w4 l15_429 l12_429).bind fun v444 =>
      ((if v444 = 2 then
          some 1
        else
          some 0) : Option (Int32)).bind fun b454 =>
      ((if v444 = 1 then
          some 1
        else
          some 0) : Option (Int32)).bind fun b470 =>
      if l12_429 = l1_429 then
        (G_X8_point F l15_429 l12_429).bind fun v492 =>
        match v492 with
        | .inl _ => none
        | .inr u492 =>
          if u492 = v444 then
            G_L_same_j502 (G_L_same_L429 r413 N2 N3 N4 F w2 w3 w4 n429) N2 N3 N4 F w2 w3 w4 (l14_429 + b470) (l13_429 + b454) l15_429 l12_429 l11_429 l10_429 l9_429 l8_429 l7_429 l6_429 l5_429 l1_429
          else
            some 0
      else
        G_L_same_j502 (G_L_same_L429 r413 N2 N3 N4 F w2 w3 w4 n429) N2 N3 N4 F w2 w3 w4 (l14_429 + b470) (l13_429 + b454) l15_429 l12_429 l11_429 l10_429 l9_429 l8_429 l7_429 l6_429 l5_429 l1_429
def G_L_same_L413  (N2 : Nat) (N3 : Nat) (N4 : Nat) (F : Fig) (w2 : Nat → Int32) (w3 : Nat → Int32) (w4 : Nat → Int32) : Nat → Int32 → Int32 → Int32 → Int32 → Int32 → Int32 → Int32 → Int32 → Int32 → Option (Int32)
  | 0, _, _, _, _, _, _, _, _, _ => none
  | n413 + 1, l12_413, l11_413, l10_413, l9_413, l8_413, l7_413, l6_413, l5_413, l1_413 =>
    if 16 ≤ l12_413 then
      (G_X8_about F 0).bind fun v565 =>
      match v565 with
      | .inl _ => none
      | .inr u565 =>
        (rd N2 w2 0).bind fun v570 =>
        if u565 = v570 then
          (G_X8_about F 1).bind fun v576 =>
          match v576 with
          | .inl _ => none
          | .inr u576 =>
            if u576 = l5_413 then
              (G_X8_about F 2).bind fun v586 =>
              match v586 with
              | .inl _ => none
              | .inr u586 =>
                (G_L_area N2 N3 N4 w2 w3 w4).bind fun v593 =>
                if u586 = v593 then
                  (G_X8_about F 3).bind fun v601 =>
                  match v601 with
                  | .inl _ => none
                  | .inr u601 =>
                    if u601 = l11_413 then
                      (G_X8_about F 4).bind fun v611 =>
                      match v611 with
                      | .inl _ => none
                      | .inr u611 =>
                        if u611 = l10_413 then
                          (G_X8_about F 5).bind fun v621 =>
                          match v621 with
                          | .inl _ => none
                          | .inr u621 =>
                            if u621 = l8_413 then
                              (G_X8_about F 6).bind fun v632 =>
                              match v632 with
                              | .inl _ => none
                              | .inr u632 =>
                                if u632 = l9_413 then
                                  (G_X8_about F 7).bind fun v643 =>
                                  match v643 with
                                  | .inl _ => none
                                  | .inr u643 =>
                                    if u643 = l7_413 then
                                      (G_X8_about F 8).bind fun v654 =>
                                      match v654 with
                                      | .inl _ => none
                                      | .inr u654 =>
                                        (G_L_hull N2 N3 N4 w2 w3 w4).bind fun v661 =>
                                        if u654 = v661 then
                                          (G_X8_about F 9).bind fun v671 =>
                                          match v671 with
                                          | .inl _ => none
                                          | .inr u671 =>
                                            if 2 * u671 = l6_413 then
                                              some 1
                                            else
                                              some 0
                                        else
                                          some 0
                                    else
                                      some 0
                                else
                                  some 0
                            else
                              some 0
                        else
                          some 0
                    else
                      some 0
                else
                  some 0
            else
              some 0
        else
          some 0
    else
      G_L_same_L429 (G_L_same_L413 N2 N3 N4 F w2 w3 w4 n413) N2 N3 N4 F w2 w3 w4 FU 0 0 0 l12_413 l11_413 l10_413 l9_413 l8_413 l7_413 l6_413 l5_413 l1_413
def G_L_same_j398 (r18 : Int32 → Int32 → Int32 → Int32 → Int32 → Int32 → Int32 → Option (Int32)) (N2 : Nat) (N3 : Nat) (N4 : Nat) (F : Fig) (w2 : Nat → Int32) (w3 : Nat → Int32) (w4 : Nat → Int32) (l10_398 : Int32) (l9_398 : Int32) (l8_398 : Int32) (l7_398 : Int32) (l6_398 : Int32) (l5_398 : Int32) (l1_398 : Int32) : Option (Int32) :=
  r18 (l10_398 + 1) l9_398 l8_398 l7_398 l6_398 l5_398 l1_398
def G_L_same_j132 (r60 : Int32 → Int32 → Int32 → Int32 → Int32 → Int32 → Int32 → Int32 → Int32 → Int32 → Int32 → Option (Int32)) (N2 : Nat) (N3 : Nat) (N4 : Nat) (F : Fig) (w2 : Nat → Int32) (w3 : Nat → Int32) (w4 : Nat → Int32) (l14_132 : Int32) (l5_132 : Int32) (l13_132 : Int32) (l12_132 : Int32) (l11_132 : Int32) (l10_132 : Int32) (l9_132 : Int32) (l8_132 : Int32) (l7_132 : Int32) (l6_132 : Int32) (l1_132 : Int32) : Option (Int32) :=
  r60 (l14_132 + 1) l5_132 l13_132 l12_132 l11_132 l10_132 l9_132 l8_132 l7_132 l6_132 l1_132
def G_L_same_L60 (r18 : Int32 → Int32 → Int32 → Int32 → Int32 → Int32 → Int32 → Option (Int32)) (N2 : Nat) (N3 : Nat) (N4 : Nat) (F : Fig) (w2 : Nat → Int32) (w3 : Nat → Int32) (w4 : Nat → Int32) : Nat → Int32 → Int32 → Int32 → Int32 → Int32 → Int32 → Int32 → Int32 → Int32 → Int32 → Int32 → Option (Int32)
  | 0, _, _, _, _, _, _, _, _, _, _, _ => none
  | n60 + 1, l14_60, l5_60, l13_60, l12_60, l11_60, l10_60, l9_60, l8_60, l7_60, l6_60, l1_60 =>
    if 40 ≤ l14_60 then
      (G_L_kind N2 N3 N4 w2 w3 w4 l10_60).bind fun v151 =>
      (G_L_bend N2 N3 N4 w2 w3 w4 l10_60).bind fun v162 =>
      ((if l11_60 = 0 then
          (rd N2 w2 1).bind fun v174 =>
          if v174 ≤ 3 then
            some 0
          else
            if v151 = 1 then
              (G_L_before N2 w2 l10_60).bind fun v188 =>
              (G_L_next N2 w2 l10_60).bind fun v194 =>
              (G_L_sees N2 N3 N4 w2 w3 w4 v188 v194).bind fun v201 =>
              if v201 = 0 then
                some 0
              else
                some 1
            else
              some 0
        else
          some 0) : Option (Int32)).bind fun b169 =>
      ((if l11_60 = 0 then
          if v151 = 1 then
            some 1
          else
            some 0
        else
          some 0) : Option (Int32)).bind fun b218 =>
      ((if l11_60 = 0 then
          if v151 = (-1) then
            some 1
          else
            some 0
        else
          some 0) : Option (Int32)).bind fun b239 =>
      ((if b169 = 0 then
          some 0
        else
          some 1) : Option (Int32)).bind fun b260 =>
      (G_X8_corner F l11_60 l12_60 0).bind fun v277 =>
      match v277 with
      | .inl _ => none
      | .inr u277 =>
        (rd N3 w3 l10_60).bind fun v283 =>
        if u277 = v283 then
          (G_X8_corner F l11_60 l12_60 1).bind fun v293 =>
          match v293 with
          | .inl _ => none
          | .inr u293 =>
            (rd N4 w4 l10_60).bind fun v300 =>
            if u293 = v300 then
              (G_X8_corner F l11_60 l12_60 2).bind fun v310 =>
              match v310 with
              | .inl _ => none
              | .inr u310 =>
                if u310 = v151 then
                  (G_X8_corner F l11_60 l12_60 3).bind fun v324 =>
                  match v324 with
                  | .inl _ => none
                  | .inr u324 =>
                    if u324 = l13_60 then
                      (G_X8_corner F l11_60 l12_60 4).bind fun v338 =>
                      match v338 with
                      | .inl _ => none
                      | .inr u338 =>
                        ((if 0 ≤ v162 then
                            some v162
                          else
                            some (-v162)) : Option (Int32)).bind fun b343 =>
                        if u338 = b343 then
                          if l11_60 = 0 then
                            (G_X8_cut F l12_60).bind fun v367 =>
                            match v367 with
                            | .inl _ => none
                            | .inr u367 =>
                              ((if b169 = 0 then
                                  some (-9)
                                else
                                  if 0 ≤ v162 then
                                    some v162
                                  else
                                    some (-v162)) : Option (Int32)).bind fun b372 =>
                              if u367 = b372 then
                                G_L_same_j398 r18 N2 N3 N4 F w2 w3 w4 l10_60 (l9_60 + b239) (l8_60 + b218) (l7_60 + b260) (l6_60 + l13_60) l5_60 l1_60
                              else
                                some 0
                          else
                            G_L_same_j398 r18 N2 N3 N4 F w2 w3 w4 l10_60 (l9_60 + b239) (l8_60 + b218) (l7_60 + b260) (l6_60 + l13_60) l5_60 l1_60
                        else
                          some 0
                    else
                      some 0
                else
                  some 0
            else
              some 0
        else
          some 0
    else
      (G_L_there N2 w2 l14_60).bind fun v70 =>
      if v70 = 0 then
        G_L_same_j132 (G_L_same_L60 r18 N2 N3 N4 F w2 w3 w4 n60) N2 N3 N4 F w2 w3 w4 l14_60 l5_60 l13_60 l12_60 l11_60 l10_60 l9_60 l8_60 l7_60 l6_60 l1_60
      else
        (G_L_sees N2 N3 N4 w2 w3 w4 l10_60 l14_60).bind fun v87 =>
        ((if v87 = 0 then
            some 0
          else
            some 1) : Option (Int32)).bind fun b96 =>
        (G_X8_sees F l11_60 l12_60 (l14_60 / 10) (l14_60 - l14_60 / 10 * 10)).bind fun v122 =>
        match v122 with
        | .inl _ => none
        | .inr u122 =>
          if u122 = v87 then
            G_L_same_j132 (G_L_same_L60 r18 N2 N3 N4 F w2 w3 w4 n60) N2 N3 N4 F w2 w3 w4 l14_60 l5_60 (l13_60 + b96) l12_60 l11_60 l10_60 l9_60 l8_60 l7_60 l6_60 l1_60
          else
            some 0
def G_L_same_L18  (N2 : Nat) (N3 : Nat) (N4 : Nat) (F : Fig) (w2 : Nat → Int32) (w3 : Nat → Int32) (w4 : Nat → Int32) : Nat → Int32 → Int32 → Int32 → Int32 → Int32 → Int32 → Int32 → Option (Int32)
  | 0, _, _, _, _, _, _, _ => none
  | n18 + 1, l10_18, l9_18, l8_18, l7_18, l6_18, l5_18, l1_18 =>
    if 40 ≤ l10_18 then
      G_L_same_L413 N2 N3 N4 F w2 w3 w4 FU 0 0 0 l9_18 l8_18 l7_18 l6_18 l5_18 l1_18
    else
      (G_L_there N2 w2 l10_18).bind fun v28 =>
      if v28 = 0 then
        G_L_same_j398 (G_L_same_L18 N2 N3 N4 F w2 w3 w4 n18) N2 N3 N4 F w2 w3 w4 l10_18 l9_18 l8_18 l7_18 l6_18 l5_18 l1_18
      else
        G_L_same_L60 (G_L_same_L18 N2 N3 N4 F w2 w3 w4 n18) N2 N3 N4 F w2 w3 w4 FU 0 (l5_18 + 1) 0 (l10_18 - l10_18 / 10 * 10) (l10_18 / 10) l10_18 l9_18 l8_18 l7_18 l6_18 l1_18
def G_L_same (N2 : Nat) (N3 : Nat) (N4 : Nat) (F : Fig) (w2 : Nat → Int32) (w3 : Nat → Int32) (w4 : Nat → Int32) (p1 : Int32) : Option (Int32) :=
  G_L_same_L18 N2 N3 N4 F w2 w3 w4 FU 0 0 0 0 0 0 p1
abbrev rm_L_same : Room := { frames := 7, cells := 0, slots := 0, locals := 165 }
theorem hdS_L_same : yL_same.cls ≠ "java/lang/invoke/MethodHandle" ∧ yL_same.cls ≠ "java/lang/invoke/VarHandle" ∧ (parseMethodDescriptor yL_same.desc).map (fun d => d.parameters.length) = some 5 := by decide +kernel
set_option maxHeartbeats 4000000 in
set_option maxRecDepth 100000 in
theorem c_L_same (l : Launch) (dC : Nat → ClassId) (dI : Nat → Nat → Nat) (cy : Nat → ClassId) (x : Nat → Nat) (a2 : Nat) (a3 : Nat) (a4 : Nat) (N2 : Nat) (N3 : Nat) (N4 : Nat) (F : Fig) (w2 : Nat → Int32) (w3 : Nat → Int32) (w4 : Nat → Int32) (p1 : Int32) (res : Int32) (h : G_L_same N2 N3 N4 F w2 w3 w4 p1 = some res) : CT l (dC, dI) (TY cy) yL_same cL_same 17 (some .boolean) rm_L_same [.ref (x 0), .int p1, .ref a2, .ref a3, .ref a4] (wSPo x ++ wFig (fun j => x (1 + j)) cy F ++ wIA a2 cy N2 w2 ++ wIA a3 cy N3 w3 ++ wIA a4 cy N4 w4) (wSPo x ++ wFig (fun j => x (1 + j)) cy F ++ wIA a2 cy N2 w2 ++ wIA a3 cy N3 w3 ++ wIA a4 cy N4 w4) (some (.int res)) := by
  refine CT.mk_z (own := RL) ⟨by decide, rfl⟩ (Nat.le_of_ble_eq_true rfl) ?_
  intro p e s mm args below meth cd A Q hx hb hml hown htg hN hK hA hP hD hS hE ls hl
  have hl : lv_has ls 17 [(0, .ref (x 0)), (1, .int p1), (2, .ref a2), (3, .ref a3), (4, .ref a4)] := hl
  replace h : _ = some res := h
  unfold G_L_same at h
  obtain ⟨H, hH⟩ : ∃ H, H = s.heap := ⟨_, rfl⟩
  obtain ⟨locs, hlocs⟩ : ∃ locs : List Loc, locs = [] := ⟨_, rfl⟩
  rw [← hlocs] at hS ⊢
  have hS : va_S A s.heap H locs := by rw [hH]; exact hS
  rw [← hH] at hP ⊢
  refine lv_iconst (v := 0) hx hb dL_same_0 (by decide) ?_
  refine lv_istore (lv' := [(5, .int 0), (0, .ref (x 0)), (1, .int p1), (2, .ref a2), (3, .ref a3), (4, .ref a4)]) hx hb dL_same_1 hl (by decide) rfl (fun ls hl => ?_)
  refine lv_iconst (v := 0) hx hb dL_same_3 (by decide) ?_
  refine lv_istore (lv' := [(6, .int 0), (5, .int 0), (0, .ref (x 0)), (1, .int p1), (2, .ref a2), (3, .ref a3), (4, .ref a4)]) hx hb dL_same_4 hl (by decide) rfl (fun ls hl => ?_)
  refine lv_iconst (v := 0) hx hb dL_same_6 (by decide) ?_
  refine lv_istore (lv' := [(7, .int 0), (6, .int 0), (5, .int 0), (0, .ref (x 0)), (1, .int p1), (2, .ref a2), (3, .ref a3), (4, .ref a4)]) hx hb dL_same_7 hl (by decide) rfl (fun ls hl => ?_)
  refine lv_iconst (v := 0) hx hb dL_same_9 (by decide) ?_
  refine lv_istore (lv' := [(8, .int 0), (7, .int 0), (6, .int 0), (5, .int 0), (0, .ref (x 0)), (1, .int p1), (2, .ref a2), (3, .ref a3), (4, .ref a4)]) hx hb dL_same_10 hl (by decide) rfl (fun ls hl => ?_)
  refine lv_iconst (v := 0) hx hb dL_same_12 (by decide) ?_
  refine lv_istore (lv' := [(9, .int 0), (8, .int 0), (7, .int 0), (6, .int 0), (5, .int 0), (0, .ref (x 0)), (1, .int p1), (2, .ref a2), (3, .ref a3), (4, .ref a4)]) hx hb dL_same_13 hl (by decide) rfl (fun ls hl => ?_)
  refine lv_iconst (v := 0) hx hb dL_same_15 (by decide) ?_
  refine lv_istore (lv' := [(10, .int 0), (9, .int 0), (8, .int 0), (7, .int 0), (6, .int 0), (5, .int 0), (0, .ref (x 0)), (1, .int p1), (2, .ref a2), (3, .ref a3), (4, .ref a4)]) hx hb dL_same_16 hl (by decide) rfl (fun ls hl => ?_)
  have hL18 : ∀ (n18 : Nat) (l10_18 : Int32) (l9_18 : Int32) (l8_18 : Int32) (l7_18 : Int32) (l6_18 : Int32) (l5_18 : Int32) (l1_18 : Int32) (H : Heap) (locs : List Loc) (ls : Array Slot), G_L_same_L18 N2 N3 N4 F w2 w3 w4 n18 l10_18 l9_18 l8_18 l7_18 l6_18 l5_18 l1_18 = some res → va_P (dC, dI) vwCl (wSPo x ++ wFig (fun j => x (1 + j)) cy F ++ wIA a2 cy N2 w2 ++ wIA a3 cy N3 w3 ++ wIA a4 cy N4 w4) H → va_D A (wSPo x ++ wFig (fun j => x (1 + j)) cy F ++ wIA a2 cy N2 w2 ++ wIA a3 cy N3 w3 ++ wIA a4 cy N4 w4) → va_S A s.heap H locs → lv_has ls 17 [(10, .int l10_18), (9, .int l9_18), (8, .int l8_18), (7, .int l7_18), (6, .int l6_18), (5, .int l5_18), (0, .ref (x 0)), (1, .int l1_18), (2, .ref a2), (3, .ref a3), (4, .ref a4)] → W p l e rm_L_same s mm args below meth cd H locs 0 0 Q (F0 mm 18 ls []) := by
    intro n18
    induction n18 with
    | zero => intro l10_18 l9_18 l8_18 l7_18 l6_18 l5_18 l1_18 H locs ls h; exact absurd h (by simp [G_L_same_L18])
    | succ n18 ih18 =>
      intro l10_18 l9_18 l8_18 l7_18 l6_18 l5_18 l1_18 H locs ls h hP hD hS hl
      rw [G_L_same_L18] at h
      refine lv_iload hx hb dL_same_18 (lv_at hl 0 rfl) ?_
      refine lv_bipush (v := 40) hx hb dL_same_20 (by decide) ?_
      refine lv_icmp_ge (tgt := 404) hx hb dL_same_22 (by decide) (fun c22 => ?_) (fun c22 => ?_)
      · replace h := if_t h c22
        refine lv_iconst (v := 0) hx hb dL_same_404 (by decide) ?_
        refine lv_istore (lv' := [(10, .int 0), (9, .int l9_18), (8, .int l8_18), (7, .int l7_18), (6, .int l6_18), (5, .int l5_18), (0, .ref (x 0)), (1, .int l1_18), (2, .ref a2), (3, .ref a3), (4, .ref a4)]) hx hb dL_same_405 hl (by decide) rfl (fun ls hl => ?_)
        refine lv_iconst (v := 0) hx hb dL_same_407 (by decide) ?_
        refine lv_istore (lv' := [(11, .int 0), (10, .int 0), (9, .int l9_18), (8, .int l8_18), (7, .int l7_18), (6, .int l6_18), (5, .int l5_18), (0, .ref (x 0)), (1, .int l1_18), (2, .ref a2), (3, .ref a3), (4, .ref a4)]) hx hb dL_same_408 hl (by decide) rfl (fun ls hl => ?_)
        refine lv_iconst (v := 0) hx hb dL_same_410 (by decide) ?_
        refine lv_istore (lv' := [(12, .int 0), (11, .int 0), (10, .int 0), (9, .int l9_18), (8, .int l8_18), (7, .int l7_18), (6, .int l6_18), (5, .int l5_18), (0, .ref (x 0)), (1, .int l1_18), (2, .ref a2), (3, .ref a3), (4, .ref a4)]) hx hb dL_same_411 hl (by decide) rfl (fun ls hl => ?_)
        have hL413 : ∀ (n413 : Nat) (l12_413 : Int32) (l11_413 : Int32) (l10_413 : Int32) (l9_413 : Int32) (l8_413 : Int32) (l7_413 : Int32) (l6_413 : Int32) (l5_413 : Int32) (l1_413 : Int32) (H : Heap) (locs : List Loc) (ls : Array Slot), G_L_same_L413 N2 N3 N4 F w2 w3 w4 n413 l12_413 l11_413 l10_413 l9_413 l8_413 l7_413 l6_413 l5_413 l1_413 = some res → va_P (dC, dI) vwCl (wSPo x ++ wFig (fun j => x (1 + j)) cy F ++ wIA a2 cy N2 w2 ++ wIA a3 cy N3 w3 ++ wIA a4 cy N4 w4) H → va_D A (wSPo x ++ wFig (fun j => x (1 + j)) cy F ++ wIA a2 cy N2 w2 ++ wIA a3 cy N3 w3 ++ wIA a4 cy N4 w4) → va_S A s.heap H locs → lv_has ls 17 [(12, .int l12_413), (11, .int l11_413), (10, .int l10_413), (9, .int l9_413), (8, .int l8_413), (7, .int l7_413), (6, .int l6_413), (5, .int l5_413), (0, .ref (x 0)), (1, .int l1_413), (2, .ref a2), (3, .ref a3), (4, .ref a4)] → W p l e rm_L_same s mm args below meth cd H locs 0 0 Q (F0 mm 413 ls []) := by
          intro n413
          induction n413 with
          | zero => intro l12_413 l11_413 l10_413 l9_413 l8_413 l7_413 l6_413 l5_413 l1_413 H locs ls h; exact absurd h (by simp [G_L_same_L413])
          | succ n413 ih413 =>
            intro l12_413 l11_413 l10_413 l9_413 l8_413 l7_413 l6_413 l5_413 l1_413 H locs ls h hP hD hS hl
            rw [G_L_same_L413] at h
            refine lv_iload hx hb dL_same_413 (lv_at hl 0 rfl) ?_
            refine lv_bipush (v := 16) hx hb dL_same_415 (by decide) ?_
            refine lv_icmp_ge (tgt := 563) hx hb dL_same_417 (by decide) (fun c417 => ?_) (fun c417 => ?_)
            · replace h := if_t h c417
              refine lv_aload_n hx hb dL_same_563 rfl (lv_at hl 8 rfl) ?_
              refine lv_iconst (v := 0) hx hb dL_same_564 (by decide) ?_
              obtain ⟨v565, e565, h⟩ := bnd h
              rcases hv565 : v565 with k565 | u565
              · simp only [hv565] at h; cases h
              simp only [hv565] at h
              refine cV (av := [.int 0]) (rest := []) (st1 := [.int u565]) (k1 := 0) (k2 := 0) (ci := 3) (q0 := 0) hx hb hml hown htg hN hK (c0_X8_about l dC dI cy x F 0 u565 (by rw [e565, hv565])) (g_V gw566 gw567 gw568 gw7 gw569) hdV_X8_about rfl ⟨⟨Nat.le_of_ble_eq_true rfl, Nat.le_of_ble_eq_true rfl⟩, Nat.le_of_ble_eq_true rfl, Nat.le_of_ble_eq_true rfl⟩ hP hD hS hA ⟨rfl, rfl⟩ rfl [0, 1, 2, 3, 4, 5] [6, 7, 8] rfl rfl rfl (by decide) (by decide) hl.1 rfl (Nat.le_of_ble_eq_true rfl) rfl rfl rfl dL_same_565 (fun H locs hP hD hS => ?_)
              obtain ⟨hP, hD⟩ := x_perm (ws' := wSPo x ++ wFig (fun j => x (1 + j)) cy F ++ wIA a2 cy N2 w2 ++ wIA a3 cy N3 w3 ++ wIA a4 cy N4 w4) hP hD [3, 4, 5, 6, 7, 8, 0, 1, 2] (by decide) rfl rfl
              refine lv_aload_n hx hb dL_same_568 rfl (lv_at hl 10 rfl) ?_
              refine lv_iconst (v := 0) hx hb dL_same_569 (by decide) ?_
              obtain ⟨v570, e570, h⟩ := bnd h
              refine x_iald (v := v570) hx hb hK hP 6 0 rfl rfl e570 dL_same_570 ?_
              refine lv_icmp_ne (tgt := 684) hx hb dL_same_571 (by decide) (fun c571 => ?_) (fun c571 => ?_)
              · replace h := if_f h c571
                refine lv_iconst (v := 0) hx hb dL_same_684 (by decide) ?_
                obtain rfl := Option.some.inj h
                exact hE H locs 685 ls _ hP hD hS rfl (Or.inl rfl) dL_same_685
              replace h := if_t h c571
              refine lv_aload_n hx hb dL_same_574 rfl (lv_at hl 8 rfl) ?_
              refine lv_iconst (v := 1) hx hb dL_same_575 (by decide) ?_
              obtain ⟨v576, e576, h⟩ := bnd h
              rcases hv576 : v576 with k576 | u576
              · simp only [hv576] at h; cases h
              simp only [hv576] at h
              refine cV (av := [.int 1]) (rest := []) (st1 := [.int u576]) (k1 := 0) (k2 := 0) (ci := 3) (q0 := 0) hx hb hml hown htg hN hK (c0_X8_about l dC dI cy x F 1 u576 (by rw [e576, hv576])) (g_V gw566 gw567 gw568 gw7 gw569) hdV_X8_about rfl ⟨⟨Nat.le_of_ble_eq_true rfl, Nat.le_of_ble_eq_true rfl⟩, Nat.le_of_ble_eq_true rfl, Nat.le_of_ble_eq_true rfl⟩ hP hD hS hA ⟨rfl, rfl⟩ rfl [0, 1, 2, 3, 4, 5] [6, 7, 8] rfl rfl rfl (by decide) (by decide) hl.1 rfl (Nat.le_of_ble_eq_true rfl) rfl rfl rfl dL_same_576 (fun H locs hP hD hS => ?_)
              obtain ⟨hP, hD⟩ := x_perm (ws' := wSPo x ++ wFig (fun j => x (1 + j)) cy F ++ wIA a2 cy N2 w2 ++ wIA a3 cy N3 w3 ++ wIA a4 cy N4 w4) hP hD [3, 4, 5, 6, 7, 8, 0, 1, 2] (by decide) rfl rfl
              refine lv_iload hx hb dL_same_579 (lv_at hl 7 rfl) ?_
              refine lv_icmp_ne (tgt := 684) hx hb dL_same_581 (by decide) (fun c581 => ?_) (fun c581 => ?_)
              · replace h := if_f h c581
                refine lv_iconst (v := 0) hx hb dL_same_684 (by decide) ?_
                obtain rfl := Option.some.inj h
                exact hE H locs 685 ls _ hP hD hS rfl (Or.inl rfl) dL_same_685
              replace h := if_t h c581
              refine lv_aload_n hx hb dL_same_584 rfl (lv_at hl 8 rfl) ?_
              refine lv_iconst (v := 2) hx hb dL_same_585 (by decide) ?_
              obtain ⟨v586, e586, h⟩ := bnd h
              rcases hv586 : v586 with k586 | u586
              · simp only [hv586] at h; cases h
              simp only [hv586] at h
              refine cV (av := [.int 2]) (rest := []) (st1 := [.int u586]) (k1 := 0) (k2 := 0) (ci := 3) (q0 := 0) hx hb hml hown htg hN hK (c0_X8_about l dC dI cy x F 2 u586 (by rw [e586, hv586])) (g_V gw566 gw567 gw568 gw7 gw569) hdV_X8_about rfl ⟨⟨Nat.le_of_ble_eq_true rfl, Nat.le_of_ble_eq_true rfl⟩, Nat.le_of_ble_eq_true rfl, Nat.le_of_ble_eq_true rfl⟩ hP hD hS hA ⟨rfl, rfl⟩ rfl [0, 1, 2, 3, 4, 5] [6, 7, 8] rfl rfl rfl (by decide) (by decide) hl.1 rfl (Nat.le_of_ble_eq_true rfl) rfl rfl rfl dL_same_586 (fun H locs hP hD hS => ?_)
              obtain ⟨hP, hD⟩ := x_perm (ws' := wSPo x ++ wFig (fun j => x (1 + j)) cy F ++ wIA a2 cy N2 w2 ++ wIA a3 cy N3 w3 ++ wIA a4 cy N4 w4) hP hD [3, 4, 5, 6, 7, 8, 0, 1, 2] (by decide) rfl rfl
              refine lv_aload_n hx hb dL_same_589 rfl (lv_at hl 10 rfl) ?_
              refine lv_aload_n hx hb dL_same_590 rfl (lv_at hl 11 rfl) ?_
              refine lv_aload hx hb dL_same_591 (lv_at hl 12 rfl) ?_
              obtain ⟨v593, e593, h⟩ := bnd h
              refine cS (av := [.ref a2, .ref a3, .ref a4]) (rest := [.int u586]) (st1 := [.int v593, .int u586]) (k1 := 0) (k2 := 0) hx hb hml hown htg hN hK (c_L_area l dC dI cy a2 a3 a4 N2 N3 N4 w2 w3 w4  v593 e593) (g_S gw471 gw472 gw6 gw473) hdS_L_area rfl ⟨⟨Nat.le_of_ble_eq_true rfl, Nat.le_of_ble_eq_true rfl⟩, Nat.le_of_ble_eq_true rfl, Nat.le_of_ble_eq_true rfl⟩ hP hD hS hA [6, 7, 8] [0, 1, 2, 3, 4, 5] rfl rfl rfl (by decide) (by decide) hl.1 rfl (Nat.le_of_ble_eq_true rfl) rfl rfl rfl dL_same_593 (fun H locs hP hD hS => ?_)
              obtain ⟨hP, hD⟩ := x_perm (ws' := wSPo x ++ wFig (fun j => x (1 + j)) cy F ++ wIA a2 cy N2 w2 ++ wIA a3 cy N3 w3 ++ wIA a4 cy N4 w4) hP hD [0, 1, 2, 3, 4, 5, 6, 7, 8] (by decide) rfl rfl
              refine lv_icmp_ne (tgt := 684) hx hb dL_same_596 (by decide) (fun c596 => ?_) (fun c596 => ?_)
              · replace h := if_f h c596
                refine lv_iconst (v := 0) hx hb dL_same_684 (by decide) ?_
                obtain rfl := Option.some.inj h
                exact hE H locs 685 ls _ hP hD hS rfl (Or.inl rfl) dL_same_685
              replace h := if_t h c596
              refine lv_aload_n hx hb dL_same_599 rfl (lv_at hl 8 rfl) ?_
              refine lv_iconst (v := 3) hx hb dL_same_600 (by decide) ?_
              obtain ⟨v601, e601, h⟩ := bnd h
              rcases hv601 : v601 with k601 | u601
              · simp only [hv601] at h; cases h
              simp only [hv601] at h
              refine cV (av := [.int 3]) (rest := []) (st1 := [.int u601]) (k1 := 0) (k2 := 0) (ci := 3) (q0 := 0) hx hb hml hown htg hN hK (c0_X8_about l dC dI cy x F 3 u601 (by rw [e601, hv601])) (g_V gw566 gw567 gw568 gw7 gw569) hdV_X8_about rfl ⟨⟨Nat.le_of_ble_eq_true rfl, Nat.le_of_ble_eq_true rfl⟩, Nat.le_of_ble_eq_true rfl, Nat.le_of_ble_eq_true rfl⟩ hP hD hS hA ⟨rfl, rfl⟩ rfl [0, 1, 2, 3, 4, 5] [6, 7, 8] rfl rfl rfl (by decide) (by decide) hl.1 rfl (Nat.le_of_ble_eq_true rfl) rfl rfl rfl dL_same_601 (fun H locs hP hD hS => ?_)
              obtain ⟨hP, hD⟩ := x_perm (ws' := wSPo x ++ wFig (fun j => x (1 + j)) cy F ++ wIA a2 cy N2 w2 ++ wIA a3 cy N3 w3 ++ wIA a4 cy N4 w4) hP hD [3, 4, 5, 6, 7, 8, 0, 1, 2] (by decide) rfl rfl
              refine lv_iload hx hb dL_same_604 (lv_at hl 1 rfl) ?_
              refine lv_icmp_ne (tgt := 684) hx hb dL_same_606 (by decide) (fun c606 => ?_) (fun c606 => ?_)
              · replace h := if_f h c606
                refine lv_iconst (v := 0) hx hb dL_same_684 (by decide) ?_
                obtain rfl := Option.some.inj h
                exact hE H locs 685 ls _ hP hD hS rfl (Or.inl rfl) dL_same_685
              replace h := if_t h c606
              refine lv_aload_n hx hb dL_same_609 rfl (lv_at hl 8 rfl) ?_
              refine lv_iconst (v := 4) hx hb dL_same_610 (by decide) ?_
              obtain ⟨v611, e611, h⟩ := bnd h
              rcases hv611 : v611 with k611 | u611
              · simp only [hv611] at h; cases h
              simp only [hv611] at h
              refine cV (av := [.int 4]) (rest := []) (st1 := [.int u611]) (k1 := 0) (k2 := 0) (ci := 3) (q0 := 0) hx hb hml hown htg hN hK (c0_X8_about l dC dI cy x F 4 u611 (by rw [e611, hv611])) (g_V gw566 gw567 gw568 gw7 gw569) hdV_X8_about rfl ⟨⟨Nat.le_of_ble_eq_true rfl, Nat.le_of_ble_eq_true rfl⟩, Nat.le_of_ble_eq_true rfl, Nat.le_of_ble_eq_true rfl⟩ hP hD hS hA ⟨rfl, rfl⟩ rfl [0, 1, 2, 3, 4, 5] [6, 7, 8] rfl rfl rfl (by decide) (by decide) hl.1 rfl (Nat.le_of_ble_eq_true rfl) rfl rfl rfl dL_same_611 (fun H locs hP hD hS => ?_)
              obtain ⟨hP, hD⟩ := x_perm (ws' := wSPo x ++ wFig (fun j => x (1 + j)) cy F ++ wIA a2 cy N2 w2 ++ wIA a3 cy N3 w3 ++ wIA a4 cy N4 w4) hP hD [3, 4, 5, 6, 7, 8, 0, 1, 2] (by decide) rfl rfl
              refine lv_iload hx hb dL_same_614 (lv_at hl 2 rfl) ?_
              refine lv_icmp_ne (tgt := 684) hx hb dL_same_616 (by decide) (fun c616 => ?_) (fun c616 => ?_)
              · replace h := if_f h c616
                refine lv_iconst (v := 0) hx hb dL_same_684 (by decide) ?_
                obtain rfl := Option.some.inj h
                exact hE H locs 685 ls _ hP hD hS rfl (Or.inl rfl) dL_same_685
              replace h := if_t h c616
              refine lv_aload_n hx hb dL_same_619 rfl (lv_at hl 8 rfl) ?_
              refine lv_iconst (v := 5) hx hb dL_same_620 (by decide) ?_
              obtain ⟨v621, e621, h⟩ := bnd h
              rcases hv621 : v621 with k621 | u621
              · simp only [hv621] at h; cases h
              simp only [hv621] at h
              refine cV (av := [.int 5]) (rest := []) (st1 := [.int u621]) (k1 := 0) (k2 := 0) (ci := 3) (q0 := 0) hx hb hml hown htg hN hK (c0_X8_about l dC dI cy x F 5 u621 (by rw [e621, hv621])) (g_V gw566 gw567 gw568 gw7 gw569) hdV_X8_about rfl ⟨⟨Nat.le_of_ble_eq_true rfl, Nat.le_of_ble_eq_true rfl⟩, Nat.le_of_ble_eq_true rfl, Nat.le_of_ble_eq_true rfl⟩ hP hD hS hA ⟨rfl, rfl⟩ rfl [0, 1, 2, 3, 4, 5] [6, 7, 8] rfl rfl rfl (by decide) (by decide) hl.1 rfl (Nat.le_of_ble_eq_true rfl) rfl rfl rfl dL_same_621 (fun H locs hP hD hS => ?_)
              obtain ⟨hP, hD⟩ := x_perm (ws' := wSPo x ++ wFig (fun j => x (1 + j)) cy F ++ wIA a2 cy N2 w2 ++ wIA a3 cy N3 w3 ++ wIA a4 cy N4 w4) hP hD [3, 4, 5, 6, 7, 8, 0, 1, 2] (by decide) rfl rfl
              refine lv_iload hx hb dL_same_624 (lv_at hl 4 rfl) ?_
              refine lv_icmp_ne (tgt := 684) hx hb dL_same_626 (by decide) (fun c626 => ?_) (fun c626 => ?_)
              · replace h := if_f h c626
                refine lv_iconst (v := 0) hx hb dL_same_684 (by decide) ?_
                obtain rfl := Option.some.inj h
                exact hE H locs 685 ls _ hP hD hS rfl (Or.inl rfl) dL_same_685
              replace h := if_t h c626
              refine lv_aload_n hx hb dL_same_629 rfl (lv_at hl 8 rfl) ?_
              refine lv_bipush (v := 6) hx hb dL_same_630 (by decide) ?_
              obtain ⟨v632, e632, h⟩ := bnd h
              rcases hv632 : v632 with k632 | u632
              · simp only [hv632] at h; cases h
              simp only [hv632] at h
              refine cV (av := [.int 6]) (rest := []) (st1 := [.int u632]) (k1 := 0) (k2 := 0) (ci := 3) (q0 := 0) hx hb hml hown htg hN hK (c0_X8_about l dC dI cy x F 6 u632 (by rw [e632, hv632])) (g_V gw566 gw567 gw568 gw7 gw569) hdV_X8_about rfl ⟨⟨Nat.le_of_ble_eq_true rfl, Nat.le_of_ble_eq_true rfl⟩, Nat.le_of_ble_eq_true rfl, Nat.le_of_ble_eq_true rfl⟩ hP hD hS hA ⟨rfl, rfl⟩ rfl [0, 1, 2, 3, 4, 5] [6, 7, 8] rfl rfl rfl (by decide) (by decide) hl.1 rfl (Nat.le_of_ble_eq_true rfl) rfl rfl rfl dL_same_632 (fun H locs hP hD hS => ?_)
              obtain ⟨hP, hD⟩ := x_perm (ws' := wSPo x ++ wFig (fun j => x (1 + j)) cy F ++ wIA a2 cy N2 w2 ++ wIA a3 cy N3 w3 ++ wIA a4 cy N4 w4) hP hD [3, 4, 5, 6, 7, 8, 0, 1, 2] (by decide) rfl rfl
              refine lv_iload hx hb dL_same_635 (lv_at hl 3 rfl) ?_
              refine lv_icmp_ne (tgt := 684) hx hb dL_same_637 (by decide) (fun c637 => ?_) (fun c637 => ?_)
              · replace h := if_f h c637
                refine lv_iconst (v := 0) hx hb dL_same_684 (by decide) ?_
                obtain rfl := Option.some.inj h
                exact hE H locs 685 ls _ hP hD hS rfl (Or.inl rfl) dL_same_685
              replace h := if_t h c637
              refine lv_aload_n hx hb dL_same_640 rfl (lv_at hl 8 rfl) ?_
              refine lv_bipush (v := 7) hx hb dL_same_641 (by decide) ?_
              obtain ⟨v643, e643, h⟩ := bnd h
              rcases hv643 : v643 with k643 | u643
              · simp only [hv643] at h; cases h
              simp only [hv643] at h
              refine cV (av := [.int 7]) (rest := []) (st1 := [.int u643]) (k1 := 0) (k2 := 0) (ci := 3) (q0 := 0) hx hb hml hown htg hN hK (c0_X8_about l dC dI cy x F 7 u643 (by rw [e643, hv643])) (g_V gw566 gw567 gw568 gw7 gw569) hdV_X8_about rfl ⟨⟨Nat.le_of_ble_eq_true rfl, Nat.le_of_ble_eq_true rfl⟩, Nat.le_of_ble_eq_true rfl, Nat.le_of_ble_eq_true rfl⟩ hP hD hS hA ⟨rfl, rfl⟩ rfl [0, 1, 2, 3, 4, 5] [6, 7, 8] rfl rfl rfl (by decide) (by decide) hl.1 rfl (Nat.le_of_ble_eq_true rfl) rfl rfl rfl dL_same_643 (fun H locs hP hD hS => ?_)
              obtain ⟨hP, hD⟩ := x_perm (ws' := wSPo x ++ wFig (fun j => x (1 + j)) cy F ++ wIA a2 cy N2 w2 ++ wIA a3 cy N3 w3 ++ wIA a4 cy N4 w4) hP hD [3, 4, 5, 6, 7, 8, 0, 1, 2] (by decide) rfl rfl
              refine lv_iload hx hb dL_same_646 (lv_at hl 5 rfl) ?_
              refine lv_icmp_ne (tgt := 684) hx hb dL_same_648 (by decide) (fun c648 => ?_) (fun c648 => ?_)
              · replace h := if_f h c648
                refine lv_iconst (v := 0) hx hb dL_same_684 (by decide) ?_
                obtain rfl := Option.some.inj h
                exact hE H locs 685 ls _ hP hD hS rfl (Or.inl rfl) dL_same_685
              replace h := if_t h c648
              refine lv_aload_n hx hb dL_same_651 rfl (lv_at hl 8 rfl) ?_
              refine lv_bipush (v := 8) hx hb dL_same_652 (by decide) ?_
              obtain ⟨v654, e654, h⟩ := bnd h
              rcases hv654 : v654 with k654 | u654
              · simp only [hv654] at h; cases h
              simp only [hv654] at h
              refine cV (av := [.int 8]) (rest := []) (st1 := [.int u654]) (k1 := 0) (k2 := 0) (ci := 3) (q0 := 0) hx hb hml hown htg hN hK (c0_X8_about l dC dI cy x F 8 u654 (by rw [e654, hv654])) (g_V gw566 gw567 gw568 gw7 gw569) hdV_X8_about rfl ⟨⟨Nat.le_of_ble_eq_true rfl, Nat.le_of_ble_eq_true rfl⟩, Nat.le_of_ble_eq_true rfl, Nat.le_of_ble_eq_true rfl⟩ hP hD hS hA ⟨rfl, rfl⟩ rfl [0, 1, 2, 3, 4, 5] [6, 7, 8] rfl rfl rfl (by decide) (by decide) hl.1 rfl (Nat.le_of_ble_eq_true rfl) rfl rfl rfl dL_same_654 (fun H locs hP hD hS => ?_)
              obtain ⟨hP, hD⟩ := x_perm (ws' := wSPo x ++ wFig (fun j => x (1 + j)) cy F ++ wIA a2 cy N2 w2 ++ wIA a3 cy N3 w3 ++ wIA a4 cy N4 w4) hP hD [3, 4, 5, 6, 7, 8, 0, 1, 2] (by decide) rfl rfl
              refine lv_aload_n hx hb dL_same_657 rfl (lv_at hl 10 rfl) ?_
              refine lv_aload_n hx hb dL_same_658 rfl (lv_at hl 11 rfl) ?_
              refine lv_aload hx hb dL_same_659 (lv_at hl 12 rfl) ?_
              obtain ⟨v661, e661, h⟩ := bnd h
              refine cS (av := [.ref a2, .ref a3, .ref a4]) (rest := [.int u654]) (st1 := [.int v661, .int u654]) (k1 := 0) (k2 := 0) hx hb hml hown htg hN hK (c_L_hull l dC dI cy a2 a3 a4 N2 N3 N4 w2 w3 w4  v661 e661) (g_S gw600 gw601 gw6 gw602) hdS_L_hull rfl ⟨⟨Nat.le_of_ble_eq_true rfl, Nat.le_of_ble_eq_true rfl⟩, Nat.le_of_ble_eq_true rfl, Nat.le_of_ble_eq_true rfl⟩ hP hD hS hA [6, 7, 8] [0, 1, 2, 3, 4, 5] rfl rfl rfl (by decide) (by decide) hl.1 rfl (Nat.le_of_ble_eq_true rfl) rfl rfl rfl dL_same_661 (fun H locs hP hD hS => ?_)
              obtain ⟨hP, hD⟩ := x_perm (ws' := wSPo x ++ wFig (fun j => x (1 + j)) cy F ++ wIA a2 cy N2 w2 ++ wIA a3 cy N3 w3 ++ wIA a4 cy N4 w4) hP hD [0, 1, 2, 3, 4, 5, 6, 7, 8] (by decide) rfl rfl
              refine lv_icmp_ne (tgt := 684) hx hb dL_same_664 (by decide) (fun c664 => ?_) (fun c664 => ?_)
              · replace h := if_f h c664
                refine lv_iconst (v := 0) hx hb dL_same_684 (by decide) ?_
                obtain rfl := Option.some.inj h
                exact hE H locs 685 ls _ hP hD hS rfl (Or.inl rfl) dL_same_685
              replace h := if_t h c664
              refine lv_iconst (v := 2) hx hb dL_same_667 (by decide) ?_
              refine lv_aload_n hx hb dL_same_668 rfl (lv_at hl 8 rfl) ?_
              refine lv_bipush (v := 9) hx hb dL_same_669 (by decide) ?_
              obtain ⟨v671, e671, h⟩ := bnd h
              rcases hv671 : v671 with k671 | u671
              · simp only [hv671] at h; cases h
              simp only [hv671] at h
              refine cV (av := [.int 9]) (rest := [.int 2]) (st1 := [.int u671, .int 2]) (k1 := 0) (k2 := 0) (ci := 3) (q0 := 0) hx hb hml hown htg hN hK (c0_X8_about l dC dI cy x F 9 u671 (by rw [e671, hv671])) (g_V gw566 gw567 gw568 gw7 gw569) hdV_X8_about rfl ⟨⟨Nat.le_of_ble_eq_true rfl, Nat.le_of_ble_eq_true rfl⟩, Nat.le_of_ble_eq_true rfl, Nat.le_of_ble_eq_true rfl⟩ hP hD hS hA ⟨rfl, rfl⟩ rfl [0, 1, 2, 3, 4, 5] [6, 7, 8] rfl rfl rfl (by decide) (by decide) hl.1 rfl (Nat.le_of_ble_eq_true rfl) rfl rfl rfl dL_same_671 (fun H locs hP hD hS => ?_)
              obtain ⟨hP, hD⟩ := x_perm (ws' := wSPo x ++ wFig (fun j => x (1 + j)) cy F ++ wIA a2 cy N2 w2 ++ wIA a3 cy N3 w3 ++ wIA a4 cy N4 w4) hP hD [3, 4, 5, 6, 7, 8, 0, 1, 2] (by decide) rfl rfl
              refine lv_imul hx hb dL_same_674 ?_
              refine lv_iload hx hb dL_same_675 (lv_at hl 6 rfl) ?_
              refine lv_icmp_ne (tgt := 684) hx hb dL_same_677 (by decide) (fun c677 => ?_) (fun c677 => ?_)
              · replace h := if_f h c677
                refine lv_iconst (v := 0) hx hb dL_same_684 (by decide) ?_
                obtain rfl := Option.some.inj h
                exact hE H locs 685 ls _ hP hD hS rfl (Or.inl rfl) dL_same_685
              replace h := if_t h c677
              refine lv_iconst (v := 1) hx hb dL_same_680 (by decide) ?_
              refine lv_goto (tgt := 685) hx hb dL_same_681 (by decide) ?_
              obtain rfl := Option.some.inj h
              exact hE H locs 685 ls _ hP hD hS rfl (Or.inr rfl) dL_same_685
            replace h := if_f h c417
            refine lv_iconst (v := 0) hx hb dL_same_420 (by decide) ?_
            refine lv_istore (lv' := [(13, .int 0), (12, .int l12_413), (11, .int l11_413), (10, .int l10_413), (9, .int l9_413), (8, .int l8_413), (7, .int l7_413), (6, .int l6_413), (5, .int l5_413), (0, .ref (x 0)), (1, .int l1_413), (2, .ref a2), (3, .ref a3), (4, .ref a4)]) hx hb dL_same_421 hl (by decide) rfl (fun ls hl => ?_)
            refine lv_iconst (v := 0) hx hb dL_same_423 (by decide) ?_
            refine lv_istore (lv' := [(14, .int 0), (13, .int 0), (12, .int l12_413), (11, .int l11_413), (10, .int l10_413), (9, .int l9_413), (8, .int l8_413), (7, .int l7_413), (6, .int l6_413), (5, .int l5_413), (0, .ref (x 0)), (1, .int l1_413), (2, .ref a2), (3, .ref a3), (4, .ref a4)]) hx hb dL_same_424 hl (by decide) rfl (fun ls hl => ?_)
            refine lv_iconst (v := 0) hx hb dL_same_426 (by decide) ?_
            refine lv_istore (lv' := [(15, .int 0), (14, .int 0), (13, .int 0), (12, .int l12_413), (11, .int l11_413), (10, .int l10_413), (9, .int l9_413), (8, .int l8_413), (7, .int l7_413), (6, .int l6_413), (5, .int l5_413), (0, .ref (x 0)), (1, .int l1_413), (2, .ref a2), (3, .ref a3), (4, .ref a4)]) hx hb dL_same_427 hl (by decide) rfl (fun ls hl => ?_)
            have hL429 : ∀ (n429 : Nat) (l15_429 : Int32) (l14_429 : Int32) (l13_429 : Int32) (l12_429 : Int32) (l11_429 : Int32) (l10_429 : Int32) (l9_429 : Int32) (l8_429 : Int32) (l7_429 : Int32) (l6_429 : Int32) (l5_429 : Int32) (l1_429 : Int32) (H : Heap) (locs : List Loc) (ls : Array Slot), G_L_same_L429 (G_L_same_L413 N2 N3 N4 F w2 w3 w4 n413) N2 N3 N4 F w2 w3 w4 n429 l15_429 l14_429 l13_429 l12_429 l11_429 l10_429 l9_429 l8_429 l7_429 l6_429 l5_429 l1_429 = some res → va_P (dC, dI) vwCl (wSPo x ++ wFig (fun j => x (1 + j)) cy F ++ wIA a2 cy N2 w2 ++ wIA a3 cy N3 w3 ++ wIA a4 cy N4 w4) H → va_D A (wSPo x ++ wFig (fun j => x (1 + j)) cy F ++ wIA a2 cy N2 w2 ++ wIA a3 cy N3 w3 ++ wIA a4 cy N4 w4) → va_S A s.heap H locs → lv_has ls 17 [(15, .int l15_429), (14, .int l14_429), (13, .int l13_429), (12, .int l12_429), (11, .int l11_429), (10, .int l10_429), (9, .int l9_429), (8, .int l8_429), (7, .int l7_429), (6, .int l6_429), (5, .int l5_429), (0, .ref (x 0)), (1, .int l1_429), (2, .ref a2), (3, .ref a3), (4, .ref a4)] → W p l e rm_L_same s mm args below meth cd H locs 0 0 Q (F0 mm 429 ls []) := by
              intro n429
              induction n429 with
              | zero => intro l15_429 l14_429 l13_429 l12_429 l11_429 l10_429 l9_429 l8_429 l7_429 l6_429 l5_429 l1_429 H locs ls h; exact absurd h (by simp [G_L_same_L429])
              | succ n429 ih429 =>
                intro l15_429 l14_429 l13_429 l12_429 l11_429 l10_429 l9_429 l8_429 l7_429 l6_429 l5_429 l1_429 H locs ls h hP hD hS hl
                rw [G_L_same_L429] at h
                refine lv_iload hx hb dL_same_429 (lv_at hl 0 rfl) ?_
                refine lv_bipush (v := 16) hx hb dL_same_431 (by decide) ?_
                refine lv_icmp_ge (tgt := 508) hx hb dL_same_433 (by decide) (fun c433 => ?_) (fun c433 => ?_)
                · replace h := if_t h c433
                  refine lv_iload hx hb dL_same_508 (lv_at hl 3 rfl) ?_
                  refine lv_iload_n hx hb dL_same_510 rfl (lv_at hl 12 rfl) ?_
                  have hj543 : ∀ (l14_543 : Int32) (l13_543 : Int32) (l12_543 : Int32) (l11_543 : Int32) (l10_543 : Int32) (l9_543 : Int32) (l8_543 : Int32) (l7_543 : Int32) (l6_543 : Int32) (l5_543 : Int32) (l1_543 : Int32) (H : Heap) (locs : List Loc) (ls : Array Slot), G_L_same_j543 (G_L_same_L413 N2 N3 N4 F w2 w3 w4 n413) N2 N3 N4 F w2 w3 w4 l14_543 l13_543 l12_543 l11_543 l10_543 l9_543 l8_543 l7_543 l6_543 l5_543 l1_543 = some res → va_P (dC, dI) vwCl (wSPo x ++ wFig (fun j => x (1 + j)) cy F ++ wIA a2 cy N2 w2 ++ wIA a3 cy N3 w3 ++ wIA a4 cy N4 w4) H → va_D A (wSPo x ++ wFig (fun j => x (1 + j)) cy F ++ wIA a2 cy N2 w2 ++ wIA a3 cy N3 w3 ++ wIA a4 cy N4 w4) → va_S A s.heap H locs → lv_has ls 17 [(14, .int l14_543), (13, .int l13_543), (12, .int l12_543), (11, .int l11_543), (10, .int l10_543), (9, .int l9_543), (8, .int l8_543), (7, .int l7_543), (6, .int l6_543), (5, .int l5_543), (0, .ref (x 0)), (1, .int l1_543), (2, .ref a2), (3, .ref a3), (4, .ref a4)] → W p l e rm_L_same s mm args below meth cd H locs 0 0 Q (F0 mm 543 ls []) := by
                    intro l14_543 l13_543 l12_543 l11_543 l10_543 l9_543 l8_543 l7_543 l6_543 l5_543 l1_543 H locs ls h hP hD hS hl
                    unfold G_L_same_j543 at h
                    refine lv_iload hx hb dL_same_543 (lv_at hl 4 rfl) ?_
                    refine lv_iload hx hb dL_same_545 (lv_at hl 1 rfl) ?_
                    refine lv_iadd hx hb dL_same_547 ?_
                    refine lv_istore (lv' := [(10, .int (l10_543 + l13_543)), (14, .int l14_543), (13, .int l13_543), (12, .int l12_543), (11, .int l11_543), (9, .int l9_543), (8, .int l8_543), (7, .int l7_543), (6, .int l6_543), (5, .int l5_543), (0, .ref (x 0)), (1, .int l1_543), (2, .ref a2), (3, .ref a3), (4, .ref a4)]) hx hb dL_same_548 hl (by decide) rfl (fun ls hl => ?_)
                    refine lv_iload hx hb dL_same_550 (lv_at hl 4 rfl) ?_
                    refine lv_iload hx hb dL_same_552 (lv_at hl 1 rfl) ?_
                    refine lv_iadd hx hb dL_same_554 ?_
                    refine lv_istore (lv' := [(11, .int (l11_543 + l14_543)), (10, .int (l10_543 + l13_543)), (14, .int l14_543), (13, .int l13_543), (12, .int l12_543), (9, .int l9_543), (8, .int l8_543), (7, .int l7_543), (6, .int l6_543), (5, .int l5_543), (0, .ref (x 0)), (1, .int l1_543), (2, .ref a2), (3, .ref a3), (4, .ref a4)]) hx hb dL_same_555 hl (by decide) rfl (fun ls hl => ?_)
                    refine lv_iinc (v := l12_543 + 1) (lv' := [(12, .int (l12_543 + 1)), (11, .int (l11_543 + l14_543)), (10, .int (l10_543 + l13_543)), (14, .int l14_543), (13, .int l13_543), (9, .int l9_543), (8, .int l8_543), (7, .int l7_543), (6, .int l6_543), (5, .int l5_543), (0, .ref (x 0)), (1, .int l1_543), (2, .ref a2), (3, .ref a3), (4, .ref a4)]) hx hb dL_same_557 hl (k := 4) rfl rfl (by decide) rfl (fun ls hl => ?_)
                    refine lv_goto (tgt := 413) hx hb dL_same_560 (by decide) ?_
                    exact ih413 (l12_543 + 1) (l11_543 + l14_543) (l10_543 + l13_543) l9_543 l8_543 l7_543 l6_543 l5_543 l1_543 H locs ls h hP hD hS (lv_sub hl [0, 1, 2, 5, 6, 7, 8, 9, 10, 11, 12, 13, 14] rfl)
                  refine lv_icmp_ne (tgt := 543) hx hb dL_same_511 (by decide) (fun c511 => ?_) (fun c511 => ?_)
                  · replace h := if_f h c511
                    exact hj543 l14_429 l13_429 l12_429 l11_429 l10_429 l9_429 l8_429 l7_429 l6_429 l5_429 l1_429 H locs ls h hP hD hS (lv_sub hl [1, 2, 3, 4, 5, 6, 7, 8, 9, 10, 11, 12, 13, 14, 15] rfl)
                  replace h := if_t h c511
                  refine lv_aload_n hx hb dL_same_514 rfl (lv_at hl 11 rfl) ?_
                  refine lv_iload hx hb dL_same_515 (lv_at hl 3 rfl) ?_
                  refine lv_iconst (v := 0) hx hb dL_same_517 (by decide) ?_
                  obtain ⟨v518, e518, h⟩ := bnd h
                  rcases hv518 : v518 with k518 | u518
                  · simp only [hv518] at h; cases h
                  simp only [hv518] at h
                  refine cV (av := [.int l12_429, .int 0]) (rest := []) (st1 := [.int u518]) (k1 := 0) (k2 := 0) (ci := 3) (q0 := 0) hx hb hml hown htg hN hK (c0_X8_inRow l dC dI cy x F l12_429 0 u518 (by rw [e518, hv518])) (g_V gw561 gw562 gw563 gw7 gw564) hdV_X8_inRow rfl ⟨⟨Nat.le_of_ble_eq_true rfl, Nat.le_of_ble_eq_true rfl⟩, Nat.le_of_ble_eq_true rfl, Nat.le_of_ble_eq_true rfl⟩ hP hD hS hA ⟨rfl, rfl⟩ rfl [0, 1, 2, 3, 4, 5] [6, 7, 8] rfl rfl rfl (by decide) (by decide) hl.1 rfl (Nat.le_of_ble_eq_true rfl) rfl rfl rfl dL_same_518 (fun H locs hP hD hS => ?_)
                  obtain ⟨hP, hD⟩ := x_perm (ws' := wSPo x ++ wFig (fun j => x (1 + j)) cy F ++ wIA a2 cy N2 w2 ++ wIA a3 cy N3 w3 ++ wIA a4 cy N4 w4) hP hD [3, 4, 5, 6, 7, 8, 0, 1, 2] (by decide) rfl rfl
                  refine lv_iload hx hb dL_same_521 (lv_at hl 2 rfl) ?_
                  refine lv_icmp_ne (tgt := 541) hx hb dL_same_523 (by decide) (fun c523 => ?_) (fun c523 => ?_)
                  · replace h := if_f h c523
                    refine lv_iconst (v := 0) hx hb dL_same_541 (by decide) ?_
                    obtain rfl := Option.some.inj h
                    exact hE H locs 542 ls _ hP hD hS rfl (Or.inl rfl) dL_same_542
                  replace h := if_t h c523
                  refine lv_aload_n hx hb dL_same_526 rfl (lv_at hl 11 rfl) ?_
                  refine lv_iload hx hb dL_same_527 (lv_at hl 3 rfl) ?_
                  refine lv_iconst (v := 1) hx hb dL_same_529 (by decide) ?_
                  obtain ⟨v530, e530, h⟩ := bnd h
                  rcases hv530 : v530 with k530 | u530
                  · simp only [hv530] at h; cases h
                  simp only [hv530] at h
                  refine cV (av := [.int l12_429, .int 1]) (rest := []) (st1 := [.int u530]) (k1 := 0) (k2 := 0) (ci := 3) (q0 := 0) hx hb hml hown htg hN hK (c0_X8_inRow l dC dI cy x F l12_429 1 u530 (by rw [e530, hv530])) (g_V gw561 gw562 gw563 gw7 gw564) hdV_X8_inRow rfl ⟨⟨Nat.le_of_ble_eq_true rfl, Nat.le_of_ble_eq_true rfl⟩, Nat.le_of_ble_eq_true rfl, Nat.le_of_ble_eq_true rfl⟩ hP hD hS hA ⟨rfl, rfl⟩ rfl [0, 1, 2, 3, 4, 5] [6, 7, 8] rfl rfl rfl (by decide) (by decide) hl.1 rfl (Nat.le_of_ble_eq_true rfl) rfl rfl rfl dL_same_530 (fun H locs hP hD hS => ?_)
                  obtain ⟨hP, hD⟩ := x_perm (ws' := wSPo x ++ wFig (fun j => x (1 + j)) cy F ++ wIA a2 cy N2 w2 ++ wIA a3 cy N3 w3 ++ wIA a4 cy N4 w4) hP hD [3, 4, 5, 6, 7, 8, 0, 1, 2] (by decide) rfl rfl
                  refine lv_iload hx hb dL_same_533 (lv_at hl 2 rfl) ?_
                  refine lv_iload hx hb dL_same_535 (lv_at hl 1 rfl) ?_
                  refine lv_iadd hx hb dL_same_537 ?_
                  refine lv_icmp_eq (tgt := 543) hx hb dL_same_538 (by decide) (fun c538 => ?_) (fun c538 => ?_)
                  · replace h := if_t h c538
                    exact hj543 l14_429 l13_429 l12_429 l11_429 l10_429 l9_429 l8_429 l7_429 l6_429 l5_429 l1_429 H locs ls h hP hD hS (lv_sub hl [1, 2, 3, 4, 5, 6, 7, 8, 9, 10, 11, 12, 13, 14, 15] rfl)
                  replace h := if_f h c538
                  refine lv_iconst (v := 0) hx hb dL_same_541 (by decide) ?_
                  obtain rfl := Option.some.inj h
                  exact hE H locs 542 ls _ hP hD hS rfl (Or.inl rfl) dL_same_542
                replace h := if_f h c433
                refine lv_iload hx hb dL_same_436 (lv_at hl 0 rfl) ?_
                refine lv_iload hx hb dL_same_438 (lv_at hl 3 rfl) ?_
                refine lv_aload_n hx hb dL_same_440 rfl (lv_at hl 13 rfl) ?_
                refine lv_aload_n hx hb dL_same_441 rfl (lv_at hl 14 rfl) ?_
                refine lv_aload hx hb dL_same_442 (lv_at hl 15 rfl) ?_
                obtain ⟨v444, e444, h⟩ := bnd h
                refine cS (av := [.int l15_429, .int l12_429, .ref a2, .ref a3, .ref a4]) (rest := []) (st1 := [.int v444]) (k1 := 0) (k2 := 0) hx hb hml hown htg hN hK (c_L_where l dC dI cy a2 a3 a4 N2 N3 N4 w2 w3 w4 l15_429 l12_429 v444 e444) (g_S gw548 gw549 gw6 gw550) hdS_L_where rfl ⟨⟨Nat.le_of_ble_eq_true rfl, Nat.le_of_ble_eq_true rfl⟩, Nat.le_of_ble_eq_true rfl, Nat.le_of_ble_eq_true rfl⟩ hP hD hS hA [6, 7, 8] [0, 1, 2, 3, 4, 5] rfl rfl rfl (by decide) (by decide) hl.1 rfl (Nat.le_of_ble_eq_true rfl) rfl rfl rfl dL_same_444 (fun H locs hP hD hS => ?_)
                obtain ⟨hP, hD⟩ := x_perm (ws' := wSPo x ++ wFig (fun j => x (1 + j)) cy F ++ wIA a2 cy N2 w2 ++ wIA a3 cy N3 w3 ++ wIA a4 cy N4 w4) hP hD [0, 1, 2, 3, 4, 5, 6, 7, 8] (by decide) rfl rfl
                refine lv_istore (lv' := [(16, .int v444), (15, .int l15_429), (14, .int l14_429), (13, .int l13_429), (12, .int l12_429), (11, .int l11_429), (10, .int l10_429), (9, .int l9_429), (8, .int l8_429), (7, .int l7_429), (6, .int l6_429), (5, .int l5_429), (0, .ref (x 0)), (1, .int l1_429), (2, .ref a2), (3, .ref a3), (4, .ref a4)]) hx hb dL_same_447 hl (by decide) rfl (fun ls hl => ?_)
                refine lv_iload hx hb dL_same_449 (lv_at hl 3 rfl) ?_
                refine lv_iload hx hb dL_same_451 (lv_at hl 0 rfl) ?_
                refine lv_iconst (v := 2) hx hb dL_same_453 (by decide) ?_
                obtain ⟨b454, e454, h⟩ := bnd h
                have hr462 : ∀ (H : Heap) (locs : List Loc) (ls : Array Slot), va_P (dC, dI) vwCl (wSPo x ++ wFig (fun j => x (1 + j)) cy F ++ wIA a2 cy N2 w2 ++ wIA a3 cy N3 w3 ++ wIA a4 cy N4 w4) H → va_D A (wSPo x ++ wFig (fun j => x (1 + j)) cy F ++ wIA a2 cy N2 w2 ++ wIA a3 cy N3 w3 ++ wIA a4 cy N4 w4) → va_S A s.heap H locs → lv_has ls 17 [(16, .int v444), (15, .int l15_429), (14, .int l14_429), (13, .int l13_429), (12, .int l12_429), (11, .int l11_429), (10, .int l10_429), (9, .int l9_429), (8, .int l8_429), (7, .int l7_429), (6, .int l6_429), (5, .int l5_429), (0, .ref (x 0)), (1, .int l1_429), (2, .ref a2), (3, .ref a3), (4, .ref a4)] → W p l e rm_L_same s mm args below meth cd H locs 0 0 Q (F0 mm 462 ls [.int b454, .int l13_429]) := by
                  intro H locs ls hP hD hS hl
                  refine lv_iadd hx hb dL_same_462 ?_
                  refine lv_istore (lv' := [(13, .int (l13_429 + b454)), (16, .int v444), (15, .int l15_429), (14, .int l14_429), (12, .int l12_429), (11, .int l11_429), (10, .int l10_429), (9, .int l9_429), (8, .int l8_429), (7, .int l7_429), (6, .int l6_429), (5, .int l5_429), (0, .ref (x 0)), (1, .int l1_429), (2, .ref a2), (3, .ref a3), (4, .ref a4)]) hx hb dL_same_463 hl (by decide) rfl (fun ls hl => ?_)
                  refine lv_iload hx hb dL_same_465 (lv_at hl 3 rfl) ?_
                  refine lv_iload hx hb dL_same_467 (lv_at hl 1 rfl) ?_
                  refine lv_iconst (v := 1) hx hb dL_same_469 (by decide) ?_
                  obtain ⟨b470, e470, h⟩ := bnd h
                  have hr478 : ∀ (H : Heap) (locs : List Loc) (ls : Array Slot), va_P (dC, dI) vwCl (wSPo x ++ wFig (fun j => x (1 + j)) cy F ++ wIA a2 cy N2 w2 ++ wIA a3 cy N3 w3 ++ wIA a4 cy N4 w4) H → va_D A (wSPo x ++ wFig (fun j => x (1 + j)) cy F ++ wIA a2 cy N2 w2 ++ wIA a3 cy N3 w3 ++ wIA a4 cy N4 w4) → va_S A s.heap H locs → lv_has ls 17 [(13, .int (l13_429 + b454)), (16, .int v444), (15, .int l15_429), (14, .int l14_429), (12, .int l12_429), (11, .int l11_429), (10, .int l10_429), (9, .int l9_429), (8, .int l8_429), (7, .int l7_429), (6, .int l6_429), (5, .int l5_429), (0, .ref (x 0)), (1, .int l1_429), (2, .ref a2), (3, .ref a3), (4, .ref a4)] → W p l e rm_L_same s mm args below meth cd H locs 0 0 Q (F0 mm 478 ls [.int b470, .int l14_429]) := by
                    intro H locs ls hP hD hS hl
                    refine lv_iadd hx hb dL_same_478 ?_
                    refine lv_istore (lv' := [(14, .int (l14_429 + b470)), (13, .int (l13_429 + b454)), (16, .int v444), (15, .int l15_429), (12, .int l12_429), (11, .int l11_429), (10, .int l10_429), (9, .int l9_429), (8, .int l8_429), (7, .int l7_429), (6, .int l6_429), (5, .int l5_429), (0, .ref (x 0)), (1, .int l1_429), (2, .ref a2), (3, .ref a3), (4, .ref a4)]) hx hb dL_same_479 hl (by decide) rfl (fun ls hl => ?_)
                    refine lv_iload hx hb dL_same_481 (lv_at hl 4 rfl) ?_
                    refine lv_iload_n hx hb dL_same_483 rfl (lv_at hl 13 rfl) ?_
                    have hj502 : ∀ (l14_502 : Int32) (l13_502 : Int32) (l15_502 : Int32) (l12_502 : Int32) (l11_502 : Int32) (l10_502 : Int32) (l9_502 : Int32) (l8_502 : Int32) (l7_502 : Int32) (l6_502 : Int32) (l5_502 : Int32) (l1_502 : Int32) (H : Heap) (locs : List Loc) (ls : Array Slot), G_L_same_j502 (G_L_same_L429 (G_L_same_L413 N2 N3 N4 F w2 w3 w4 n413) N2 N3 N4 F w2 w3 w4 n429) N2 N3 N4 F w2 w3 w4 l14_502 l13_502 l15_502 l12_502 l11_502 l10_502 l9_502 l8_502 l7_502 l6_502 l5_502 l1_502 = some res → va_P (dC, dI) vwCl (wSPo x ++ wFig (fun j => x (1 + j)) cy F ++ wIA a2 cy N2 w2 ++ wIA a3 cy N3 w3 ++ wIA a4 cy N4 w4) H → va_D A (wSPo x ++ wFig (fun j => x (1 + j)) cy F ++ wIA a2 cy N2 w2 ++ wIA a3 cy N3 w3 ++ wIA a4 cy N4 w4) → va_S A s.heap H locs → lv_has ls 17 [(14, .int l14_502), (13, .int l13_502), (15, .int l15_502), (12, .int l12_502), (11, .int l11_502), (10, .int l10_502), (9, .int l9_502), (8, .int l8_502), (7, .int l7_502), (6, .int l6_502), (5, .int l5_502), (0, .ref (x 0)), (1, .int l1_502), (2, .ref a2), (3, .ref a3), (4, .ref a4)] → W p l e rm_L_same s mm args below meth cd H locs 0 0 Q (F0 mm 502 ls []) := by
                      intro l14_502 l13_502 l15_502 l12_502 l11_502 l10_502 l9_502 l8_502 l7_502 l6_502 l5_502 l1_502 H locs ls h hP hD hS hl
                      unfold G_L_same_j502 at h
                      refine lv_iinc (v := l15_502 + 1) (lv' := [(15, .int (l15_502 + 1)), (14, .int l14_502), (13, .int l13_502), (12, .int l12_502), (11, .int l11_502), (10, .int l10_502), (9, .int l9_502), (8, .int l8_502), (7, .int l7_502), (6, .int l6_502), (5, .int l5_502), (0, .ref (x 0)), (1, .int l1_502), (2, .ref a2), (3, .ref a3), (4, .ref a4)]) hx hb dL_same_502 hl (k := 2) rfl rfl (by decide) rfl (fun ls hl => ?_)
                      refine lv_goto (tgt := 429) hx hb dL_same_505 (by decide) ?_
                      exact ih429 (l15_502 + 1) l14_502 l13_502 l12_502 l11_502 l10_502 l9_502 l8_502 l7_502 l6_502 l5_502 l1_502 H locs ls h hP hD hS (lv_sub hl [0, 1, 2, 3, 4, 5, 6, 7, 8, 9, 10, 11, 12, 13, 14, 15] rfl)
                    refine lv_icmp_ne (tgt := 502) hx hb dL_same_484 (by decide) (fun c484 => ?_) (fun c484 => ?_)
                    · replace h := if_f h c484
                      exact hj502 (l14_429 + b470) (l13_429 + b454) l15_429 l12_429 l11_429 l10_429 l9_429 l8_429 l7_429 l6_429 l5_429 l1_429 H locs ls h hP hD hS (lv_sub hl [0, 1, 3, 4, 5, 6, 7, 8, 9, 10, 11, 12, 13, 14, 15, 16] rfl)
                    replace h := if_t h c484
                    refine lv_aload_n hx hb dL_same_487 rfl (lv_at hl 12 rfl) ?_
                    refine lv_iload hx hb dL_same_488 (lv_at hl 3 rfl) ?_
                    refine lv_iload hx hb dL_same_490 (lv_at hl 4 rfl) ?_
                    obtain ⟨v492, e492, h⟩ := bnd h
                    rcases hv492 : v492 with k492 | u492
                    · simp only [hv492] at h; cases h
                    simp only [hv492] at h
                    refine cV (av := [.int l15_429, .int l12_429]) (rest := []) (st1 := [.int u492]) (k1 := 0) (k2 := 0) (ci := 3) (q0 := 0) hx hb hml hown htg hN hK (c0_X8_point l dC dI cy x F l15_429 l12_429 u492 (by rw [e492, hv492])) (g_V gw551 gw552 gw553 gw7 gw554) hdV_X8_point rfl ⟨⟨Nat.le_of_ble_eq_true rfl, Nat.le_of_ble_eq_true rfl⟩, Nat.le_of_ble_eq_true rfl, Nat.le_of_ble_eq_true rfl⟩ hP hD hS hA ⟨rfl, rfl⟩ rfl [0, 1, 2, 3, 4, 5] [6, 7, 8] rfl rfl rfl (by decide) (by decide) hl.1 rfl (Nat.le_of_ble_eq_true rfl) rfl rfl rfl dL_same_492 (fun H locs hP hD hS => ?_)
                    obtain ⟨hP, hD⟩ := x_perm (ws' := wSPo x ++ wFig (fun j => x (1 + j)) cy F ++ wIA a2 cy N2 w2 ++ wIA a3 cy N3 w3 ++ wIA a4 cy N4 w4) hP hD [3, 4, 5, 6, 7, 8, 0, 1, 2] (by decide) rfl rfl
                    refine lv_iload hx hb dL_same_495 (lv_at hl 2 rfl) ?_
                    refine lv_icmp_eq (tgt := 502) hx hb dL_same_497 (by decide) (fun c497 => ?_) (fun c497 => ?_)
                    · replace h := if_t h c497
                      exact hj502 (l14_429 + b470) (l13_429 + b454) l15_429 l12_429 l11_429 l10_429 l9_429 l8_429 l7_429 l6_429 l5_429 l1_429 H locs ls h hP hD hS (lv_sub hl [0, 1, 3, 4, 5, 6, 7, 8, 9, 10, 11, 12, 13, 14, 15, 16] rfl)
                    replace h := if_f h c497
                    refine lv_iconst (v := 0) hx hb dL_same_500 (by decide) ?_
                    obtain rfl := Option.some.inj h
                    exact hE H locs 501 ls _ hP hD hS rfl (Or.inl rfl) dL_same_501
                  have h := e470
                  clear e470
                  refine lv_icmp_ne (tgt := 477) hx hb dL_same_470 (by decide) (fun c470 => ?_) (fun c470 => ?_)
                  · replace h := if_f h c470
                    refine lv_iconst (v := 0) hx hb dL_same_477 (by decide) ?_
                    obtain rfl := Option.some.inj h
                    exact hr478 H locs ls hP hD hS hl
                  replace h := if_t h c470
                  refine lv_iconst (v := 1) hx hb dL_same_473 (by decide) ?_
                  refine lv_goto (tgt := 478) hx hb dL_same_474 (by decide) ?_
                  obtain rfl := Option.some.inj h
                  exact hr478 H locs ls hP hD hS hl
                have h := e454
                clear e454
                refine lv_icmp_ne (tgt := 461) hx hb dL_same_454 (by decide) (fun c454 => ?_) (fun c454 => ?_)
                · replace h := if_f h c454
                  refine lv_iconst (v := 0) hx hb dL_same_461 (by decide) ?_
                  obtain rfl := Option.some.inj h
                  exact hr462 H locs ls hP hD hS hl
                replace h := if_t h c454
                refine lv_iconst (v := 1) hx hb dL_same_457 (by decide) ?_
                refine lv_goto (tgt := 462) hx hb dL_same_458 (by decide) ?_
                obtain rfl := Option.some.inj h
                exact hr462 H locs ls hP hD hS hl
            exact hL429 FU 0 0 0 l12_413 l11_413 l10_413 l9_413 l8_413 l7_413 l6_413 l5_413 l1_413 H locs ls h hP hD hS (lv_sub hl [0, 1, 2, 3, 4, 5, 6, 7, 8, 9, 10, 11, 12, 13, 14, 15] rfl)
        exact hL413 FU 0 0 0 l9_18 l8_18 l7_18 l6_18 l5_18 l1_18 H locs ls h hP hD hS (lv_sub hl [0, 1, 2, 3, 4, 5, 6, 7, 8, 9, 10, 11, 12] rfl)
      replace h := if_f h c22
      refine lv_iload hx hb dL_same_25 (lv_at hl 0 rfl) ?_
      refine lv_aload_n hx hb dL_same_27 rfl (lv_at hl 8 rfl) ?_
      obtain ⟨v28, e28, h⟩ := bnd h
      refine cS (av := [.int l10_18, .ref a2]) (rest := []) (st1 := [.int v28]) (k1 := 0) (k2 := 0) hx hb hml hown htg hN hK (c_L_there l dC dI cy a2 N2 w2 l10_18 v28 e28) (g_S gw453 gw454 gw6 gw455) hdS_L_there rfl ⟨⟨Nat.le_of_ble_eq_true rfl, Nat.le_of_ble_eq_true rfl⟩, Nat.le_of_ble_eq_true rfl, Nat.le_of_ble_eq_true rfl⟩ hP hD hS hA [6] [0, 1, 2, 3, 4, 5, 7, 8] rfl rfl rfl (by decide) (by decide) hl.1 rfl (Nat.le_of_ble_eq_true rfl) rfl rfl rfl dL_same_28 (fun H locs hP hD hS => ?_)
      obtain ⟨hP, hD⟩ := x_perm (ws' := wSPo x ++ wFig (fun j => x (1 + j)) cy F ++ wIA a2 cy N2 w2 ++ wIA a3 cy N3 w3 ++ wIA a4 cy N4 w4) hP hD [0, 1, 2, 3, 4, 5, 8, 6, 7] (by decide) rfl rfl
      have hj398 : ∀ (l10_398 : Int32) (l9_398 : Int32) (l8_398 : Int32) (l7_398 : Int32) (l6_398 : Int32) (l5_398 : Int32) (l1_398 : Int32) (H : Heap) (locs : List Loc) (ls : Array Slot), G_L_same_j398 (G_L_same_L18 N2 N3 N4 F w2 w3 w4 n18) N2 N3 N4 F w2 w3 w4 l10_398 l9_398 l8_398 l7_398 l6_398 l5_398 l1_398 = some res → va_P (dC, dI) vwCl (wSPo x ++ wFig (fun j => x (1 + j)) cy F ++ wIA a2 cy N2 w2 ++ wIA a3 cy N3 w3 ++ wIA a4 cy N4 w4) H → va_D A (wSPo x ++ wFig (fun j => x (1 + j)) cy F ++ wIA a2 cy N2 w2 ++ wIA a3 cy N3 w3 ++ wIA a4 cy N4 w4) → va_S A s.heap H locs → lv_has ls 17 [(10, .int l10_398), (9, .int l9_398), (8, .int l8_398), (7, .int l7_398), (6, .int l6_398), (5, .int l5_398), (0, .ref (x 0)), (1, .int l1_398), (2, .ref a2), (3, .ref a3), (4, .ref a4)] → W p l e rm_L_same s mm args below meth cd H locs 0 0 Q (F0 mm 398 ls []) := by
        intro l10_398 l9_398 l8_398 l7_398 l6_398 l5_398 l1_398 H locs ls h hP hD hS hl
        unfold G_L_same_j398 at h
        refine lv_iinc (v := l10_398 + 1) (lv' := [(10, .int (l10_398 + 1)), (9, .int l9_398), (8, .int l8_398), (7, .int l7_398), (6, .int l6_398), (5, .int l5_398), (0, .ref (x 0)), (1, .int l1_398), (2, .ref a2), (3, .ref a3), (4, .ref a4)]) hx hb dL_same_398 hl (k := 0) rfl rfl (by decide) rfl (fun ls hl => ?_)
        refine lv_goto (tgt := 18) hx hb dL_same_401 (by decide) ?_
        exact ih18 (l10_398 + 1) l9_398 l8_398 l7_398 l6_398 l5_398 l1_398 H locs ls h hP hD hS (lv_sub hl [0, 1, 2, 3, 4, 5, 6, 7, 8, 9, 10] rfl)
      refine lv_if_ne (tgt := 37) hx hb dL_same_31 (by decide) (fun c31 => ?_) (fun c31 => ?_)
      · replace h := if_f h c31
        refine lv_iload hx hb dL_same_37 (lv_at hl 0 rfl) ?_
        refine lv_bipush (v := 10) hx hb dL_same_39 (by decide) ?_
        refine lv_idiv hx hb dL_same_41 (by decide) ?_
        refine lv_istore (lv' := [(11, .int (l10_18 / 10)), (10, .int l10_18), (9, .int l9_18), (8, .int l8_18), (7, .int l7_18), (6, .int l6_18), (5, .int l5_18), (0, .ref (x 0)), (1, .int l1_18), (2, .ref a2), (3, .ref a3), (4, .ref a4)]) hx hb dL_same_42 hl (by decide) rfl (fun ls hl => ?_)
        refine lv_iload hx hb dL_same_44 (lv_at hl 1 rfl) ?_
        refine lv_bipush (v := 10) hx hb dL_same_46 (by decide) ?_
        refine lv_irem hx hb dL_same_48 (by decide) ?_
        refine lv_istore (lv' := [(12, .int (l10_18 - l10_18 / 10 * 10)), (11, .int (l10_18 / 10)), (10, .int l10_18), (9, .int l9_18), (8, .int l8_18), (7, .int l7_18), (6, .int l6_18), (5, .int l5_18), (0, .ref (x 0)), (1, .int l1_18), (2, .ref a2), (3, .ref a3), (4, .ref a4)]) hx hb dL_same_49 hl (by decide) rfl (fun ls hl => ?_)
        refine lv_iconst (v := 0) hx hb dL_same_51 (by decide) ?_
        refine lv_istore (lv' := [(13, .int 0), (12, .int (l10_18 - l10_18 / 10 * 10)), (11, .int (l10_18 / 10)), (10, .int l10_18), (9, .int l9_18), (8, .int l8_18), (7, .int l7_18), (6, .int l6_18), (5, .int l5_18), (0, .ref (x 0)), (1, .int l1_18), (2, .ref a2), (3, .ref a3), (4, .ref a4)]) hx hb dL_same_52 hl (by decide) rfl (fun ls hl => ?_)
        refine lv_iinc (v := l5_18 + 1) (lv' := [(5, .int (l5_18 + 1)), (13, .int 0), (12, .int (l10_18 - l10_18 / 10 * 10)), (11, .int (l10_18 / 10)), (10, .int l10_18), (9, .int l9_18), (8, .int l8_18), (7, .int l7_18), (6, .int l6_18), (0, .ref (x 0)), (1, .int l1_18), (2, .ref a2), (3, .ref a3), (4, .ref a4)]) hx hb dL_same_54 hl (k := 8) rfl rfl (by decide) rfl (fun ls hl => ?_)
        refine lv_iconst (v := 0) hx hb dL_same_57 (by decide) ?_
        refine lv_istore (lv' := [(14, .int 0), (5, .int (l5_18 + 1)), (13, .int 0), (12, .int (l10_18 - l10_18 / 10 * 10)), (11, .int (l10_18 / 10)), (10, .int l10_18), (9, .int l9_18), (8, .int l8_18), (7, .int l7_18), (6, .int l6_18), (0, .ref (x 0)), (1, .int l1_18), (2, .ref a2), (3, .ref a3), (4, .ref a4)]) hx hb dL_same_58 hl (by decide) rfl (fun ls hl => ?_)
        have hL60 : ∀ (n60 : Nat) (l14_60 : Int32) (l5_60 : Int32) (l13_60 : Int32) (l12_60 : Int32) (l11_60 : Int32) (l10_60 : Int32) (l9_60 : Int32) (l8_60 : Int32) (l7_60 : Int32) (l6_60 : Int32) (l1_60 : Int32) (H : Heap) (locs : List Loc) (ls : Array Slot), G_L_same_L60 (G_L_same_L18 N2 N3 N4 F w2 w3 w4 n18) N2 N3 N4 F w2 w3 w4 n60 l14_60 l5_60 l13_60 l12_60 l11_60 l10_60 l9_60 l8_60 l7_60 l6_60 l1_60 = some res → va_P (dC, dI) vwCl (wSPo x ++ wFig (fun j => x (1 + j)) cy F ++ wIA a2 cy N2 w2 ++ wIA a3 cy N3 w3 ++ wIA a4 cy N4 w4) H → va_D A (wSPo x ++ wFig (fun j => x (1 + j)) cy F ++ wIA a2 cy N2 w2 ++ wIA a3 cy N3 w3 ++ wIA a4 cy N4 w4) → va_S A s.heap H locs → lv_has ls 17 [(14, .int l14_60), (5, .int l5_60), (13, .int l13_60), (12, .int l12_60), (11, .int l11_60), (10, .int l10_60), (9, .int l9_60), (8, .int l8_60), (7, .int l7_60), (6, .int l6_60), (0, .ref (x 0)), (1, .int l1_60), (2, .ref a2), (3, .ref a3), (4, .ref a4)] → W p l e rm_L_same s mm args below meth cd H locs 0 0 Q (F0 mm 60 ls []) := by
          intro n60
          induction n60 with
          | zero => intro l14_60 l5_60 l13_60 l12_60 l11_60 l10_60 l9_60 l8_60 l7_60 l6_60 l1_60 H locs ls h; exact absurd h (by simp [G_L_same_L60])
          | succ n60 ih60 =>
            intro l14_60 l5_60 l13_60 l12_60 l11_60 l10_60 l9_60 l8_60 l7_60 l6_60 l1_60 H locs ls h hP hD hS hl
            rw [G_L_same_L60] at h
            refine lv_iload hx hb dL_same_60 (lv_at hl 0 rfl) ?_
            refine lv_bipush (v := 40) hx hb dL_same_62 (by decide) ?_
            refine lv_icmp_ge (tgt := 138) hx hb dL_same_64 (by decide) (fun c64 => ?_) (fun c64 => ?_)
            · replace h := if_t h c64
              refine lv_iload hx hb dL_same_138 (lv_at hl 9 rfl) ?_
              refine lv_iload hx hb dL_same_140 (lv_at hl 2 rfl) ?_
              refine lv_iadd hx hb dL_same_142 ?_
              refine lv_istore (lv' := [(6, .int (l6_60 + l13_60)), (14, .int l14_60), (5, .int l5_60), (13, .int l13_60), (12, .int l12_60), (11, .int l11_60), (10, .int l10_60), (9, .int l9_60), (8, .int l8_60), (7, .int l7_60), (0, .ref (x 0)), (1, .int l1_60), (2, .ref a2), (3, .ref a3), (4, .ref a4)]) hx hb dL_same_143 hl (by decide) rfl (fun ls hl => ?_)
              refine lv_iload hx hb dL_same_145 (lv_at hl 6 rfl) ?_
              refine lv_aload_n hx hb dL_same_147 rfl (lv_at hl 12 rfl) ?_
              refine lv_aload_n hx hb dL_same_148 rfl (lv_at hl 13 rfl) ?_
              refine lv_aload hx hb dL_same_149 (lv_at hl 14 rfl) ?_
              obtain ⟨v151, e151, h⟩ := bnd h
              refine cS (av := [.int l10_60, .ref a2, .ref a3, .ref a4]) (rest := []) (st1 := [.int v151]) (k1 := 0) (k2 := 0) hx hb hml hown htg hN hK (c_L_kind l dC dI cy a2 a3 a4 N2 N3 N4 w2 w3 w4 l10_60 v151 e151) (g_S gw501 gw502 gw6 gw503) hdS_L_kind rfl ⟨⟨Nat.le_of_ble_eq_true rfl, Nat.le_of_ble_eq_true rfl⟩, Nat.le_of_ble_eq_true rfl, Nat.le_of_ble_eq_true rfl⟩ hP hD hS hA [6, 7, 8] [0, 1, 2, 3, 4, 5] rfl rfl rfl (by decide) (by decide) hl.1 rfl (Nat.le_of_ble_eq_true rfl) rfl rfl rfl dL_same_151 (fun H locs hP hD hS => ?_)
              obtain ⟨hP, hD⟩ := x_perm (ws' := wSPo x ++ wFig (fun j => x (1 + j)) cy F ++ wIA a2 cy N2 w2 ++ wIA a3 cy N3 w3 ++ wIA a4 cy N4 w4) hP hD [0, 1, 2, 3, 4, 5, 6, 7, 8] (by decide) rfl rfl
              refine lv_istore (lv' := [(14, .int v151), (6, .int (l6_60 + l13_60)), (5, .int l5_60), (13, .int l13_60), (12, .int l12_60), (11, .int l11_60), (10, .int l10_60), (9, .int l9_60), (8, .int l8_60), (7, .int l7_60), (0, .ref (x 0)), (1, .int l1_60), (2, .ref a2), (3, .ref a3), (4, .ref a4)]) hx hb dL_same_154 hl (by decide) rfl (fun ls hl => ?_)
              refine lv_iload hx hb dL_same_156 (lv_at hl 6 rfl) ?_
              refine lv_aload_n hx hb dL_same_158 rfl (lv_at hl 12 rfl) ?_
              refine lv_aload_n hx hb dL_same_159 rfl (lv_at hl 13 rfl) ?_
              refine lv_aload hx hb dL_same_160 (lv_at hl 14 rfl) ?_
              obtain ⟨v162, e162, h⟩ := bnd h
              refine cS (av := [.int l10_60, .ref a2, .ref a3, .ref a4]) (rest := []) (st1 := [.int v162]) (k1 := 0) (k2 := 0) hx hb hml hown htg hN hK (c_L_bend l dC dI cy a2 a3 a4 N2 N3 N4 w2 w3 w4 l10_60 v162 e162) (g_S gw504 gw505 gw6 gw506) hdS_L_bend rfl ⟨⟨Nat.le_of_ble_eq_true rfl, Nat.le_of_ble_eq_true rfl⟩, Nat.le_of_ble_eq_true rfl, Nat.le_of_ble_eq_true rfl⟩ hP hD hS hA [6, 7, 8] [0, 1, 2, 3, 4, 5] rfl rfl rfl (by decide) (by decide) hl.1 rfl (Nat.le_of_ble_eq_true rfl) rfl rfl rfl dL_same_162 (fun H locs hP hD hS => ?_)
              obtain ⟨hP, hD⟩ := x_perm (ws' := wSPo x ++ wFig (fun j => x (1 + j)) cy F ++ wIA a2 cy N2 w2 ++ wIA a3 cy N3 w3 ++ wIA a4 cy N4 w4) hP hD [0, 1, 2, 3, 4, 5, 6, 7, 8] (by decide) rfl rfl
              refine lv_istore (lv' := [(15, .int v162), (14, .int v151), (6, .int (l6_60 + l13_60)), (5, .int l5_60), (13, .int l13_60), (12, .int l12_60), (11, .int l11_60), (10, .int l10_60), (9, .int l9_60), (8, .int l8_60), (7, .int l7_60), (0, .ref (x 0)), (1, .int l1_60), (2, .ref a2), (3, .ref a3), (4, .ref a4)]) hx hb dL_same_165 hl (by decide) rfl (fun ls hl => ?_)
              refine lv_iload hx hb dL_same_167 (lv_at hl 6 rfl) ?_
              obtain ⟨b169, e169, h⟩ := bnd h
              have hr212 : ∀ (H : Heap) (locs : List Loc) (ls : Array Slot), va_P (dC, dI) vwCl (wSPo x ++ wFig (fun j => x (1 + j)) cy F ++ wIA a2 cy N2 w2 ++ wIA a3 cy N3 w3 ++ wIA a4 cy N4 w4) H → va_D A (wSPo x ++ wFig (fun j => x (1 + j)) cy F ++ wIA a2 cy N2 w2 ++ wIA a3 cy N3 w3 ++ wIA a4 cy N4 w4) → va_S A s.heap H locs → lv_has ls 17 [(15, .int v162), (14, .int v151), (6, .int (l6_60 + l13_60)), (5, .int l5_60), (13, .int l13_60), (12, .int l12_60), (11, .int l11_60), (10, .int l10_60), (9, .int l9_60), (8, .int l8_60), (7, .int l7_60), (0, .ref (x 0)), (1, .int l1_60), (2, .ref a2), (3, .ref a3), (4, .ref a4)] → W p l e rm_L_same s mm args below meth cd H locs 0 0 Q (F0 mm 212 ls [.int b169]) := by
                intro H locs ls hP hD hS hl
                refine lv_istore (lv' := [(16, .int b169), (15, .int v162), (14, .int v151), (6, .int (l6_60 + l13_60)), (5, .int l5_60), (13, .int l13_60), (12, .int l12_60), (11, .int l11_60), (10, .int l10_60), (9, .int l9_60), (8, .int l8_60), (7, .int l7_60), (0, .ref (x 0)), (1, .int l1_60), (2, .ref a2), (3, .ref a3), (4, .ref a4)]) hx hb dL_same_212 hl (by decide) rfl (fun ls hl => ?_)
                refine lv_iload hx hb dL_same_214 (lv_at hl 10 rfl) ?_
                refine lv_iload hx hb dL_same_216 (lv_at hl 7 rfl) ?_
                obtain ⟨b218, e218, h⟩ := bnd h
                have hr232 : ∀ (H : Heap) (locs : List Loc) (ls : Array Slot), va_P (dC, dI) vwCl (wSPo x ++ wFig (fun j => x (1 + j)) cy F ++ wIA a2 cy N2 w2 ++ wIA a3 cy N3 w3 ++ wIA a4 cy N4 w4) H → va_D A (wSPo x ++ wFig (fun j => x (1 + j)) cy F ++ wIA a2 cy N2 w2 ++ wIA a3 cy N3 w3 ++ wIA a4 cy N4 w4) → va_S A s.heap H locs → lv_has ls 17 [(16, .int b169), (15, .int v162), (14, .int v151), (6, .int (l6_60 + l13_60)), (5, .int l5_60), (13, .int l13_60), (12, .int l12_60), (11, .int l11_60), (10, .int l10_60), (9, .int l9_60), (8, .int l8_60), (7, .int l7_60), (0, .ref (x 0)), (1, .int l1_60), (2, .ref a2), (3, .ref a3), (4, .ref a4)] → W p l e rm_L_same s mm args below meth cd H locs 0 0 Q (F0 mm 232 ls [.int b218, .int l8_60]) := by
                  intro H locs ls hP hD hS hl
                  refine lv_iadd hx hb dL_same_232 ?_
                  refine lv_istore (lv' := [(8, .int (l8_60 + b218)), (16, .int b169), (15, .int v162), (14, .int v151), (6, .int (l6_60 + l13_60)), (5, .int l5_60), (13, .int l13_60), (12, .int l12_60), (11, .int l11_60), (10, .int l10_60), (9, .int l9_60), (7, .int l7_60), (0, .ref (x 0)), (1, .int l1_60), (2, .ref a2), (3, .ref a3), (4, .ref a4)]) hx hb dL_same_233 hl (by decide) rfl (fun ls hl => ?_)
                  refine lv_iload hx hb dL_same_235 (lv_at hl 10 rfl) ?_
                  refine lv_iload hx hb dL_same_237 (lv_at hl 8 rfl) ?_
                  obtain ⟨b239, e239, h⟩ := bnd h
                  have hr253 : ∀ (H : Heap) (locs : List Loc) (ls : Array Slot), va_P (dC, dI) vwCl (wSPo x ++ wFig (fun j => x (1 + j)) cy F ++ wIA a2 cy N2 w2 ++ wIA a3 cy N3 w3 ++ wIA a4 cy N4 w4) H → va_D A (wSPo x ++ wFig (fun j => x (1 + j)) cy F ++ wIA a2 cy N2 w2 ++ wIA a3 cy N3 w3 ++ wIA a4 cy N4 w4) → va_S A s.heap H locs → lv_has ls 17 [(8, .int (l8_60 + b218)), (16, .int b169), (15, .int v162), (14, .int v151), (6, .int (l6_60 + l13_60)), (5, .int l5_60), (13, .int l13_60), (12, .int l12_60), (11, .int l11_60), (10, .int l10_60), (9, .int l9_60), (7, .int l7_60), (0, .ref (x 0)), (1, .int l1_60), (2, .ref a2), (3, .ref a3), (4, .ref a4)] → W p l e rm_L_same s mm args below meth cd H locs 0 0 Q (F0 mm 253 ls [.int b239, .int l9_60]) := by
                    intro H locs ls hP hD hS hl
                    refine lv_iadd hx hb dL_same_253 ?_
                    refine lv_istore (lv' := [(9, .int (l9_60 + b239)), (8, .int (l8_60 + b218)), (16, .int b169), (15, .int v162), (14, .int v151), (6, .int (l6_60 + l13_60)), (5, .int l5_60), (13, .int l13_60), (12, .int l12_60), (11, .int l11_60), (10, .int l10_60), (7, .int l7_60), (0, .ref (x 0)), (1, .int l1_60), (2, .ref a2), (3, .ref a3), (4, .ref a4)]) hx hb dL_same_254 hl (by decide) rfl (fun ls hl => ?_)
                    refine lv_iload hx hb dL_same_256 (lv_at hl 11 rfl) ?_
                    refine lv_iload hx hb dL_same_258 (lv_at hl 2 rfl) ?_
                    obtain ⟨b260, e260, h⟩ := bnd h
                    have hr268 : ∀ (H : Heap) (locs : List Loc) (ls : Array Slot), va_P (dC, dI) vwCl (wSPo x ++ wFig (fun j => x (1 + j)) cy F ++ wIA a2 cy N2 w2 ++ wIA a3 cy N3 w3 ++ wIA a4 cy N4 w4) H → va_D A (wSPo x ++ wFig (fun j => x (1 + j)) cy F ++ wIA a2 cy N2 w2 ++ wIA a3 cy N3 w3 ++ wIA a4 cy N4 w4) → va_S A s.heap H locs → lv_has ls 17 [(9, .int (l9_60 + b239)), (8, .int (l8_60 + b218)), (16, .int b169), (15, .int v162), (14, .int v151), (6, .int (l6_60 + l13_60)), (5, .int l5_60), (13, .int l13_60), (12, .int l12_60), (11, .int l11_60), (10, .int l10_60), (7, .int l7_60), (0, .ref (x 0)), (1, .int l1_60), (2, .ref a2), (3, .ref a3), (4, .ref a4)] → W p l e rm_L_same s mm args below meth cd H locs 0 0 Q (F0 mm 268 ls [.int b260, .int l7_60]) := by
                      intro H locs ls hP hD hS hl
                      refine lv_iadd hx hb dL_same_268 ?_
                      refine lv_istore (lv' := [(7, .int (l7_60 + b260)), (9, .int (l9_60 + b239)), (8, .int (l8_60 + b218)), (16, .int b169), (15, .int v162), (14, .int v151), (6, .int (l6_60 + l13_60)), (5, .int l5_60), (13, .int l13_60), (12, .int l12_60), (11, .int l11_60), (10, .int l10_60), (0, .ref (x 0)), (1, .int l1_60), (2, .ref a2), (3, .ref a3), (4, .ref a4)]) hx hb dL_same_269 hl (by decide) rfl (fun ls hl => ?_)
                      refine lv_aload_n hx hb dL_same_271 rfl (lv_at hl 12 rfl) ?_
                      refine lv_iload hx hb dL_same_272 (lv_at hl 10 rfl) ?_
                      refine lv_iload hx hb dL_same_274 (lv_at hl 9 rfl) ?_
                      refine lv_iconst (v := 0) hx hb dL_same_276 (by decide) ?_
                      obtain ⟨v277, e277, h⟩ := bnd h
                      rcases hv277 : v277 with k277 | u277
                      · simp only [hv277] at h; cases h
                      simp only [hv277] at h
                      refine cV (av := [.int l11_60, .int l12_60, .int 0]) (rest := []) (st1 := [.int u277]) (k1 := 0) (k2 := 0) (ci := 3) (q0 := 0) hx hb hml hown htg hN hK (c0_X8_corner l dC dI cy x F l11_60 l12_60 0 u277 (by rw [e277, hv277])) (g_V gw510 gw511 gw512 gw7 gw513) hdV_X8_corner rfl ⟨⟨Nat.le_of_ble_eq_true rfl, Nat.le_of_ble_eq_true rfl⟩, Nat.le_of_ble_eq_true rfl, Nat.le_of_ble_eq_true rfl⟩ hP hD hS hA ⟨rfl, rfl⟩ rfl [0, 1, 2, 3, 4, 5] [6, 7, 8] rfl rfl rfl (by decide) (by decide) hl.1 rfl (Nat.le_of_ble_eq_true rfl) rfl rfl rfl dL_same_277 (fun H locs hP hD hS => ?_)
                      obtain ⟨hP, hD⟩ := x_perm (ws' := wSPo x ++ wFig (fun j => x (1 + j)) cy F ++ wIA a2 cy N2 w2 ++ wIA a3 cy N3 w3 ++ wIA a4 cy N4 w4) hP hD [3, 4, 5, 6, 7, 8, 0, 1, 2] (by decide) rfl rfl
                      refine lv_aload_n hx hb dL_same_280 rfl (lv_at hl 15 rfl) ?_
                      refine lv_iload hx hb dL_same_281 (lv_at hl 11 rfl) ?_
                      obtain ⟨v283, e283, h⟩ := bnd h
                      refine x_iald (v := v283) hx hb hK hP 7 0 rfl rfl e283 dL_same_283 ?_
                      refine lv_icmp_ne (tgt := 357) hx hb dL_same_284 (by decide) (fun c284 => ?_) (fun c284 => ?_)
                      · replace h := if_f h c284
                        refine lv_iconst (v := 0) hx hb dL_same_357 (by decide) ?_
                        obtain rfl := Option.some.inj h
                        exact hE H locs 358 ls _ hP hD hS rfl (Or.inl rfl) dL_same_358
                      replace h := if_t h c284
                      refine lv_aload_n hx hb dL_same_287 rfl (lv_at hl 12 rfl) ?_
                      refine lv_iload hx hb dL_same_288 (lv_at hl 10 rfl) ?_
                      refine lv_iload hx hb dL_same_290 (lv_at hl 9 rfl) ?_
                      refine lv_iconst (v := 1) hx hb dL_same_292 (by decide) ?_
                      obtain ⟨v293, e293, h⟩ := bnd h
                      rcases hv293 : v293 with k293 | u293
                      · simp only [hv293] at h; cases h
                      simp only [hv293] at h
                      refine cV (av := [.int l11_60, .int l12_60, .int 1]) (rest := []) (st1 := [.int u293]) (k1 := 0) (k2 := 0) (ci := 3) (q0 := 0) hx hb hml hown htg hN hK (c0_X8_corner l dC dI cy x F l11_60 l12_60 1 u293 (by rw [e293, hv293])) (g_V gw510 gw511 gw512 gw7 gw513) hdV_X8_corner rfl ⟨⟨Nat.le_of_ble_eq_true rfl, Nat.le_of_ble_eq_true rfl⟩, Nat.le_of_ble_eq_true rfl, Nat.le_of_ble_eq_true rfl⟩ hP hD hS hA ⟨rfl, rfl⟩ rfl [0, 1, 2, 3, 4, 5] [6, 7, 8] rfl rfl rfl (by decide) (by decide) hl.1 rfl (Nat.le_of_ble_eq_true rfl) rfl rfl rfl dL_same_293 (fun H locs hP hD hS => ?_)
                      obtain ⟨hP, hD⟩ := x_perm (ws' := wSPo x ++ wFig (fun j => x (1 + j)) cy F ++ wIA a2 cy N2 w2 ++ wIA a3 cy N3 w3 ++ wIA a4 cy N4 w4) hP hD [3, 4, 5, 6, 7, 8, 0, 1, 2] (by decide) rfl rfl
                      refine lv_aload hx hb dL_same_296 (lv_at hl 16 rfl) ?_
                      refine lv_iload hx hb dL_same_298 (lv_at hl 11 rfl) ?_
                      obtain ⟨v300, e300, h⟩ := bnd h
                      refine x_iald (v := v300) hx hb hK hP 8 0 rfl rfl e300 dL_same_300 ?_
                      refine lv_icmp_ne (tgt := 357) hx hb dL_same_301 (by decide) (fun c301 => ?_) (fun c301 => ?_)
                      · replace h := if_f h c301
                        refine lv_iconst (v := 0) hx hb dL_same_357 (by decide) ?_
                        obtain rfl := Option.some.inj h
                        exact hE H locs 358 ls _ hP hD hS rfl (Or.inl rfl) dL_same_358
                      replace h := if_t h c301
                      refine lv_aload_n hx hb dL_same_304 rfl (lv_at hl 12 rfl) ?_
                      refine lv_iload hx hb dL_same_305 (lv_at hl 10 rfl) ?_
                      refine lv_iload hx hb dL_same_307 (lv_at hl 9 rfl) ?_
                      refine lv_iconst (v := 2) hx hb dL_same_309 (by decide) ?_
                      obtain ⟨v310, e310, h⟩ := bnd h
                      rcases hv310 : v310 with k310 | u310
                      · simp only [hv310] at h; cases h
                      simp only [hv310] at h
                      refine cV (av := [.int l11_60, .int l12_60, .int 2]) (rest := []) (st1 := [.int u310]) (k1 := 0) (k2 := 0) (ci := 3) (q0 := 0) hx hb hml hown htg hN hK (c0_X8_corner l dC dI cy x F l11_60 l12_60 2 u310 (by rw [e310, hv310])) (g_V gw510 gw511 gw512 gw7 gw513) hdV_X8_corner rfl ⟨⟨Nat.le_of_ble_eq_true rfl, Nat.le_of_ble_eq_true rfl⟩, Nat.le_of_ble_eq_true rfl, Nat.le_of_ble_eq_true rfl⟩ hP hD hS hA ⟨rfl, rfl⟩ rfl [0, 1, 2, 3, 4, 5] [6, 7, 8] rfl rfl rfl (by decide) (by decide) hl.1 rfl (Nat.le_of_ble_eq_true rfl) rfl rfl rfl dL_same_310 (fun H locs hP hD hS => ?_)
                      obtain ⟨hP, hD⟩ := x_perm (ws' := wSPo x ++ wFig (fun j => x (1 + j)) cy F ++ wIA a2 cy N2 w2 ++ wIA a3 cy N3 w3 ++ wIA a4 cy N4 w4) hP hD [3, 4, 5, 6, 7, 8, 0, 1, 2] (by decide) rfl rfl
                      refine lv_iload hx hb dL_same_313 (lv_at hl 5 rfl) ?_
                      refine lv_icmp_ne (tgt := 357) hx hb dL_same_315 (by decide) (fun c315 => ?_) (fun c315 => ?_)
                      · replace h := if_f h c315
                        refine lv_iconst (v := 0) hx hb dL_same_357 (by decide) ?_
                        obtain rfl := Option.some.inj h
                        exact hE H locs 358 ls _ hP hD hS rfl (Or.inl rfl) dL_same_358
                      replace h := if_t h c315
                      refine lv_aload_n hx hb dL_same_318 rfl (lv_at hl 12 rfl) ?_
                      refine lv_iload hx hb dL_same_319 (lv_at hl 10 rfl) ?_
                      refine lv_iload hx hb dL_same_321 (lv_at hl 9 rfl) ?_
                      refine lv_iconst (v := 3) hx hb dL_same_323 (by decide) ?_
                      obtain ⟨v324, e324, h⟩ := bnd h
                      rcases hv324 : v324 with k324 | u324
                      · simp only [hv324] at h; cases h
                      simp only [hv324] at h
                      refine cV (av := [.int l11_60, .int l12_60, .int 3]) (rest := []) (st1 := [.int u324]) (k1 := 0) (k2 := 0) (ci := 3) (q0 := 0) hx hb hml hown htg hN hK (c0_X8_corner l dC dI cy x F l11_60 l12_60 3 u324 (by rw [e324, hv324])) (g_V gw510 gw511 gw512 gw7 gw513) hdV_X8_corner rfl ⟨⟨Nat.le_of_ble_eq_true rfl, Nat.le_of_ble_eq_true rfl⟩, Nat.le_of_ble_eq_true rfl, Nat.le_of_ble_eq_true rfl⟩ hP hD hS hA ⟨rfl, rfl⟩ rfl [0, 1, 2, 3, 4, 5] [6, 7, 8] rfl rfl rfl (by decide) (by decide) hl.1 rfl (Nat.le_of_ble_eq_true rfl) rfl rfl rfl dL_same_324 (fun H locs hP hD hS => ?_)
                      obtain ⟨hP, hD⟩ := x_perm (ws' := wSPo x ++ wFig (fun j => x (1 + j)) cy F ++ wIA a2 cy N2 w2 ++ wIA a3 cy N3 w3 ++ wIA a4 cy N4 w4) hP hD [3, 4, 5, 6, 7, 8, 0, 1, 2] (by decide) rfl rfl
                      refine lv_iload hx hb dL_same_327 (lv_at hl 8 rfl) ?_
                      refine lv_icmp_ne (tgt := 357) hx hb dL_same_329 (by decide) (fun c329 => ?_) (fun c329 => ?_)
                      · replace h := if_f h c329
                        refine lv_iconst (v := 0) hx hb dL_same_357 (by decide) ?_
                        obtain rfl := Option.some.inj h
                        exact hE H locs 358 ls _ hP hD hS rfl (Or.inl rfl) dL_same_358
                      replace h := if_t h c329
                      refine lv_aload_n hx hb dL_same_332 rfl (lv_at hl 12 rfl) ?_
                      refine lv_iload hx hb dL_same_333 (lv_at hl 10 rfl) ?_
                      refine lv_iload hx hb dL_same_335 (lv_at hl 9 rfl) ?_
                      refine lv_iconst (v := 4) hx hb dL_same_337 (by decide) ?_
                      obtain ⟨v338, e338, h⟩ := bnd h
                      rcases hv338 : v338 with k338 | u338
                      · simp only [hv338] at h; cases h
                      simp only [hv338] at h
                      refine cV (av := [.int l11_60, .int l12_60, .int 4]) (rest := []) (st1 := [.int u338]) (k1 := 0) (k2 := 0) (ci := 3) (q0 := 0) hx hb hml hown htg hN hK (c0_X8_corner l dC dI cy x F l11_60 l12_60 4 u338 (by rw [e338, hv338])) (g_V gw510 gw511 gw512 gw7 gw513) hdV_X8_corner rfl ⟨⟨Nat.le_of_ble_eq_true rfl, Nat.le_of_ble_eq_true rfl⟩, Nat.le_of_ble_eq_true rfl, Nat.le_of_ble_eq_true rfl⟩ hP hD hS hA ⟨rfl, rfl⟩ rfl [0, 1, 2, 3, 4, 5] [6, 7, 8] rfl rfl rfl (by decide) (by decide) hl.1 rfl (Nat.le_of_ble_eq_true rfl) rfl rfl rfl dL_same_338 (fun H locs hP hD hS => ?_)
                      obtain ⟨hP, hD⟩ := x_perm (ws' := wSPo x ++ wFig (fun j => x (1 + j)) cy F ++ wIA a2 cy N2 w2 ++ wIA a3 cy N3 w3 ++ wIA a4 cy N4 w4) hP hD [3, 4, 5, 6, 7, 8, 0, 1, 2] (by decide) rfl rfl
                      refine lv_iload hx hb dL_same_341 (lv_at hl 4 rfl) ?_
                      obtain ⟨b343, e343, h⟩ := bnd h
                      have hr354 : ∀ (H : Heap) (locs : List Loc) (ls : Array Slot), va_P (dC, dI) vwCl (wSPo x ++ wFig (fun j => x (1 + j)) cy F ++ wIA a2 cy N2 w2 ++ wIA a3 cy N3 w3 ++ wIA a4 cy N4 w4) H → va_D A (wSPo x ++ wFig (fun j => x (1 + j)) cy F ++ wIA a2 cy N2 w2 ++ wIA a3 cy N3 w3 ++ wIA a4 cy N4 w4) → va_S A s.heap H locs → lv_has ls 17 [(7, .int (l7_60 + b260)), (9, .int (l9_60 + b239)), (8, .int (l8_60 + b218)), (16, .int b169), (15, .int v162), (14, .int v151), (6, .int (l6_60 + l13_60)), (5, .int l5_60), (13, .int l13_60), (12, .int l12_60), (11, .int l11_60), (10, .int l10_60), (0, .ref (x 0)), (1, .int l1_60), (2, .ref a2), (3, .ref a3), (4, .ref a4)] → W p l e rm_L_same s mm args below meth cd H locs 0 0 Q (F0 mm 354 ls [.int b343, .int u338]) := by
                        intro H locs ls hP hD hS hl
                        refine lv_icmp_eq (tgt := 359) hx hb dL_same_354 (by decide) (fun c354 => ?_) (fun c354 => ?_)
                        · replace h := if_t h c354
                          refine lv_iload hx hb dL_same_359 (lv_at hl 10 rfl) ?_
                          refine lv_if_ne (tgt := 398) hx hb dL_same_361 (by decide) (fun c361 => ?_) (fun c361 => ?_)
                          · replace h := if_f h c361
                            exact hj398 l10_60 (l9_60 + b239) (l8_60 + b218) (l7_60 + b260) (l6_60 + l13_60) l5_60 l1_60 H locs ls h hP hD hS (lv_sub hl [11, 1, 2, 0, 6, 7, 12, 13, 14, 15, 16] rfl)
                          replace h := if_t h c361
                          refine lv_aload_n hx hb dL_same_364 rfl (lv_at hl 12 rfl) ?_
                          refine lv_iload hx hb dL_same_365 (lv_at hl 9 rfl) ?_
                          obtain ⟨v367, e367, h⟩ := bnd h
                          rcases hv367 : v367 with k367 | u367
                          · simp only [hv367] at h; cases h
                          simp only [hv367] at h
                          refine cV (av := [.int l12_60]) (rest := []) (st1 := [.int u367]) (k1 := 0) (k2 := 0) (ci := 3) (q0 := 0) hx hb hml hown htg hN hK (c0_X8_cut l dC dI cy x F l12_60 u367 (by rw [e367, hv367])) (g_V gw538 gw539 gw540 gw7 gw541) hdV_X8_cut rfl ⟨⟨Nat.le_of_ble_eq_true rfl, Nat.le_of_ble_eq_true rfl⟩, Nat.le_of_ble_eq_true rfl, Nat.le_of_ble_eq_true rfl⟩ hP hD hS hA ⟨rfl, rfl⟩ rfl [0, 1, 2, 3, 4, 5] [6, 7, 8] rfl rfl rfl (by decide) (by decide) hl.1 rfl (Nat.le_of_ble_eq_true rfl) rfl rfl rfl dL_same_367 (fun H locs hP hD hS => ?_)
                          obtain ⟨hP, hD⟩ := x_perm (ws' := wSPo x ++ wFig (fun j => x (1 + j)) cy F ++ wIA a2 cy N2 w2 ++ wIA a3 cy N3 w3 ++ wIA a4 cy N4 w4) hP hD [3, 4, 5, 6, 7, 8, 0, 1, 2] (by decide) rfl rfl
                          refine lv_iload hx hb dL_same_370 (lv_at hl 3 rfl) ?_
                          obtain ⟨b372, e372, h⟩ := bnd h
                          have hr393 : ∀ (H : Heap) (locs : List Loc) (ls : Array Slot), va_P (dC, dI) vwCl (wSPo x ++ wFig (fun j => x (1 + j)) cy F ++ wIA a2 cy N2 w2 ++ wIA a3 cy N3 w3 ++ wIA a4 cy N4 w4) H → va_D A (wSPo x ++ wFig (fun j => x (1 + j)) cy F ++ wIA a2 cy N2 w2 ++ wIA a3 cy N3 w3 ++ wIA a4 cy N4 w4) → va_S A s.heap H locs → lv_has ls 17 [(7, .int (l7_60 + b260)), (9, .int (l9_60 + b239)), (8, .int (l8_60 + b218)), (16, .int b169), (15, .int v162), (14, .int v151), (6, .int (l6_60 + l13_60)), (5, .int l5_60), (13, .int l13_60), (12, .int l12_60), (11, .int l11_60), (10, .int l10_60), (0, .ref (x 0)), (1, .int l1_60), (2, .ref a2), (3, .ref a3), (4, .ref a4)] → W p l e rm_L_same s mm args below meth cd H locs 0 0 Q (F0 mm 393 ls [.int b372, .int u367]) := by
                            intro H locs ls hP hD hS hl
                            refine lv_icmp_eq (tgt := 398) hx hb dL_same_393 (by decide) (fun c393 => ?_) (fun c393 => ?_)
                            · replace h := if_t h c393
                              exact hj398 l10_60 (l9_60 + b239) (l8_60 + b218) (l7_60 + b260) (l6_60 + l13_60) l5_60 l1_60 H locs ls h hP hD hS (lv_sub hl [11, 1, 2, 0, 6, 7, 12, 13, 14, 15, 16] rfl)
                            replace h := if_f h c393
                            refine lv_iconst (v := 0) hx hb dL_same_396 (by decide) ?_
                            obtain rfl := Option.some.inj h
                            exact hE H locs 397 ls _ hP hD hS rfl (Or.inl rfl) dL_same_397
                          have h := e372
                          clear e372
                          refine lv_if_eq (tgt := 391) hx hb dL_same_372 (by decide) (fun c372 => ?_) (fun c372 => ?_)
                          · replace h := if_t h c372
                            refine lv_bipush (v := (-9)) hx hb dL_same_391 (by decide) ?_
                            obtain rfl := Option.some.inj h
                            exact hr393 H locs ls hP hD hS hl
                          replace h := if_f h c372
                          refine lv_iload hx hb dL_same_375 (lv_at hl 4 rfl) ?_
                          refine lv_if_ge (tgt := 386) hx hb dL_same_377 (by decide) (fun c377 => ?_) (fun c377 => ?_)
                          · replace h := if_t h c377
                            refine lv_iload hx hb dL_same_386 (lv_at hl 4 rfl) ?_
                            refine lv_goto (tgt := 393) hx hb dL_same_388 (by decide) ?_
                            obtain rfl := Option.some.inj h
                            exact hr393 H locs ls hP hD hS hl
                          replace h := if_f h c377
                          refine lv_iload hx hb dL_same_380 (lv_at hl 4 rfl) ?_
                          refine lv_ineg hx hb dL_same_382 ?_
                          refine lv_goto (tgt := 393) hx hb dL_same_383 (by decide) ?_
                          obtain rfl := Option.some.inj h
                          exact hr393 H locs ls hP hD hS hl
                        replace h := if_f h c354
                        refine lv_iconst (v := 0) hx hb dL_same_357 (by decide) ?_
                        obtain rfl := Option.some.inj h
                        exact hE H locs 358 ls _ hP hD hS rfl (Or.inl rfl) dL_same_358
                      have h := e343
                      clear e343
                      refine lv_if_ge (tgt := 352) hx hb dL_same_343 (by decide) (fun c343 => ?_) (fun c343 => ?_)
                      · replace h := if_t h c343
                        refine lv_iload hx hb dL_same_352 (lv_at hl 4 rfl) ?_
                        obtain rfl := Option.some.inj h
                        exact hr354 H locs ls hP hD hS hl
                      replace h := if_f h c343
                      refine lv_iload hx hb dL_same_346 (lv_at hl 4 rfl) ?_
                      refine lv_ineg hx hb dL_same_348 ?_
                      refine lv_goto (tgt := 354) hx hb dL_same_349 (by decide) ?_
                      obtain rfl := Option.some.inj h
                      exact hr354 H locs ls hP hD hS hl
                    have h := e260
                    clear e260
                    refine lv_if_eq (tgt := 267) hx hb dL_same_260 (by decide) (fun c260 => ?_) (fun c260 => ?_)
                    · replace h := if_t h c260
                      refine lv_iconst (v := 0) hx hb dL_same_267 (by decide) ?_
                      obtain rfl := Option.some.inj h
                      exact hr268 H locs ls hP hD hS hl
                    replace h := if_f h c260
                    refine lv_iconst (v := 1) hx hb dL_same_263 (by decide) ?_
                    refine lv_goto (tgt := 268) hx hb dL_same_264 (by decide) ?_
                    obtain rfl := Option.some.inj h
                    exact hr268 H locs ls hP hD hS hl
                  have h := e239
                  clear e239
                  refine lv_if_ne (tgt := 252) hx hb dL_same_239 (by decide) (fun c239 => ?_) (fun c239 => ?_)
                  · replace h := if_f h c239
                    refine lv_iconst (v := 0) hx hb dL_same_252 (by decide) ?_
                    obtain rfl := Option.some.inj h
                    exact hr253 H locs ls hP hD hS hl
                  replace h := if_t h c239
                  refine lv_iload hx hb dL_same_242 (lv_at hl 3 rfl) ?_
                  refine lv_iconst (v := (-1)) hx hb dL_same_244 (by decide) ?_
                  refine lv_icmp_ne (tgt := 252) hx hb dL_same_245 (by decide) (fun c245 => ?_) (fun c245 => ?_)
                  · replace h := if_f h c245
                    refine lv_iconst (v := 0) hx hb dL_same_252 (by decide) ?_
                    obtain rfl := Option.some.inj h
                    exact hr253 H locs ls hP hD hS hl
                  replace h := if_t h c245
                  refine lv_iconst (v := 1) hx hb dL_same_248 (by decide) ?_
                  refine lv_goto (tgt := 253) hx hb dL_same_249 (by decide) ?_
                  obtain rfl := Option.some.inj h
                  exact hr253 H locs ls hP hD hS hl
                have h := e218
                clear e218
                refine lv_if_ne (tgt := 231) hx hb dL_same_218 (by decide) (fun c218 => ?_) (fun c218 => ?_)
                · replace h := if_f h c218
                  refine lv_iconst (v := 0) hx hb dL_same_231 (by decide) ?_
                  obtain rfl := Option.some.inj h
                  exact hr232 H locs ls hP hD hS hl
                replace h := if_t h c218
                refine lv_iload hx hb dL_same_221 (lv_at hl 2 rfl) ?_
                refine lv_iconst (v := 1) hx hb dL_same_223 (by decide) ?_
                refine lv_icmp_ne (tgt := 231) hx hb dL_same_224 (by decide) (fun c224 => ?_) (fun c224 => ?_)
                · replace h := if_f h c224
                  refine lv_iconst (v := 0) hx hb dL_same_231 (by decide) ?_
                  obtain rfl := Option.some.inj h
                  exact hr232 H locs ls hP hD hS hl
                replace h := if_t h c224
                refine lv_iconst (v := 1) hx hb dL_same_227 (by decide) ?_
                refine lv_goto (tgt := 232) hx hb dL_same_228 (by decide) ?_
                obtain rfl := Option.some.inj h
                exact hr232 H locs ls hP hD hS hl
              have h := e169
              clear e169
              refine lv_if_ne (tgt := 211) hx hb dL_same_169 (by decide) (fun c169 => ?_) (fun c169 => ?_)
              · replace h := if_f h c169
                refine lv_iconst (v := 0) hx hb dL_same_211 (by decide) ?_
                obtain rfl := Option.some.inj h
                exact hr212 H locs ls hP hD hS hl
              replace h := if_t h c169
              refine lv_aload_n hx hb dL_same_172 rfl (lv_at hl 13 rfl) ?_
              refine lv_iconst (v := 1) hx hb dL_same_173 (by decide) ?_
              obtain ⟨v174, e174, h⟩ := bnd h
              refine x_iald (v := v174) hx hb hK hP 6 0 rfl rfl e174 dL_same_174 ?_
              refine lv_iconst (v := 3) hx hb dL_same_175 (by decide) ?_
              refine lv_icmp_le (tgt := 211) hx hb dL_same_176 (by decide) (fun c176 => ?_) (fun c176 => ?_)
              · replace h := if_t h c176
                refine lv_iconst (v := 0) hx hb dL_same_211 (by decide) ?_
                obtain rfl := Option.some.inj h
                exact hr212 H locs ls hP hD hS hl
              replace h := if_f h c176
              refine lv_iload hx hb dL_same_179 (lv_at hl 1 rfl) ?_
              refine lv_iconst (v := 1) hx hb dL_same_181 (by decide) ?_
              refine lv_icmp_ne (tgt := 211) hx hb dL_same_182 (by decide) (fun c182 => ?_) (fun c182 => ?_)
              · replace h := if_f h c182
                refine lv_iconst (v := 0) hx hb dL_same_211 (by decide) ?_
                obtain rfl := Option.some.inj h
                exact hr212 H locs ls hP hD hS hl
              replace h := if_t h c182
              refine lv_iload hx hb dL_same_185 (lv_at hl 7 rfl) ?_
              refine lv_aload_n hx hb dL_same_187 rfl (lv_at hl 13 rfl) ?_
              obtain ⟨v188, e188, h⟩ := bnd h
              refine cS (av := [.int l10_60, .ref a2]) (rest := []) (st1 := [.int v188]) (k1 := 0) (k2 := 0) hx hb hml hown htg hN hK (c_L_before l dC dI cy a2 N2 w2 l10_60 v188 e188) (g_S gw507 gw508 gw6 gw509) hdS_L_before rfl ⟨⟨Nat.le_of_ble_eq_true rfl, Nat.le_of_ble_eq_true rfl⟩, Nat.le_of_ble_eq_true rfl, Nat.le_of_ble_eq_true rfl⟩ hP hD hS hA [6] [0, 1, 2, 3, 4, 5, 7, 8] rfl rfl rfl (by decide) (by decide) hl.1 rfl (Nat.le_of_ble_eq_true rfl) rfl rfl rfl dL_same_188 (fun H locs hP hD hS => ?_)
              obtain ⟨hP, hD⟩ := x_perm (ws' := wSPo x ++ wFig (fun j => x (1 + j)) cy F ++ wIA a2 cy N2 w2 ++ wIA a3 cy N3 w3 ++ wIA a4 cy N4 w4) hP hD [0, 1, 2, 3, 4, 5, 8, 6, 7] (by decide) rfl rfl
              refine lv_iload hx hb dL_same_191 (lv_at hl 7 rfl) ?_
              refine lv_aload_n hx hb dL_same_193 rfl (lv_at hl 13 rfl) ?_
              obtain ⟨v194, e194, h⟩ := bnd h
              refine cS (av := [.int l10_60, .ref a2]) (rest := [.int v188]) (st1 := [.int v194, .int v188]) (k1 := 0) (k2 := 0) hx hb hml hown htg hN hK (c_L_next l dC dI cy a2 N2 w2 l10_60 v194 e194) (g_S gw456 gw457 gw6 gw458) hdS_L_next rfl ⟨⟨Nat.le_of_ble_eq_true rfl, Nat.le_of_ble_eq_true rfl⟩, Nat.le_of_ble_eq_true rfl, Nat.le_of_ble_eq_true rfl⟩ hP hD hS hA [6] [0, 1, 2, 3, 4, 5, 7, 8] rfl rfl rfl (by decide) (by decide) hl.1 rfl (Nat.le_of_ble_eq_true rfl) rfl rfl rfl dL_same_194 (fun H locs hP hD hS => ?_)
              obtain ⟨hP, hD⟩ := x_perm (ws' := wSPo x ++ wFig (fun j => x (1 + j)) cy F ++ wIA a2 cy N2 w2 ++ wIA a3 cy N3 w3 ++ wIA a4 cy N4 w4) hP hD [0, 1, 2, 3, 4, 5, 8, 6, 7] (by decide) rfl rfl
              refine lv_aload_n hx hb dL_same_197 rfl (lv_at hl 13 rfl) ?_
              refine lv_aload_n hx hb dL_same_198 rfl (lv_at hl 14 rfl) ?_
              refine lv_aload hx hb dL_same_199 (lv_at hl 15 rfl) ?_
              obtain ⟨v201, e201, h⟩ := bnd h
              refine cS (av := [.int v188, .int v194, .ref a2, .ref a3, .ref a4]) (rest := []) (st1 := [.int v201]) (k1 := 0) (k2 := 0) hx hb hml hown htg hN hK (c_L_sees l dC dI cy a2 a3 a4 N2 N3 N4 w2 w3 w4 v188 v194 v201 e201) (g_S gw480 gw481 gw6 gw482) hdS_L_sees rfl ⟨⟨Nat.le_of_ble_eq_true rfl, Nat.le_of_ble_eq_true rfl⟩, Nat.le_of_ble_eq_true rfl, Nat.le_of_ble_eq_true rfl⟩ hP hD hS hA [6, 7, 8] [0, 1, 2, 3, 4, 5] rfl rfl rfl (by decide) (by decide) hl.1 rfl (Nat.le_of_ble_eq_true rfl) rfl rfl rfl dL_same_201 (fun H locs hP hD hS => ?_)
              obtain ⟨hP, hD⟩ := x_perm (ws' := wSPo x ++ wFig (fun j => x (1 + j)) cy F ++ wIA a2 cy N2 w2 ++ wIA a3 cy N3 w3 ++ wIA a4 cy N4 w4) hP hD [0, 1, 2, 3, 4, 5, 6, 7, 8] (by decide) rfl rfl
              refine lv_if_eq (tgt := 211) hx hb dL_same_204 (by decide) (fun c204 => ?_) (fun c204 => ?_)
              · replace h := if_t h c204
                refine lv_iconst (v := 0) hx hb dL_same_211 (by decide) ?_
                obtain rfl := Option.some.inj h
                exact hr212 H locs ls hP hD hS hl
              replace h := if_f h c204
              refine lv_iconst (v := 1) hx hb dL_same_207 (by decide) ?_
              refine lv_goto (tgt := 212) hx hb dL_same_208 (by decide) ?_
              obtain rfl := Option.some.inj h
              exact hr212 H locs ls hP hD hS hl
            replace h := if_f h c64
            refine lv_iload hx hb dL_same_67 (lv_at hl 0 rfl) ?_
            refine lv_aload_n hx hb dL_same_69 rfl (lv_at hl 12 rfl) ?_
            obtain ⟨v70, e70, h⟩ := bnd h
            refine cS (av := [.int l14_60, .ref a2]) (rest := []) (st1 := [.int v70]) (k1 := 0) (k2 := 0) hx hb hml hown htg hN hK (c_L_there l dC dI cy a2 N2 w2 l14_60 v70 e70) (g_S gw453 gw454 gw6 gw455) hdS_L_there rfl ⟨⟨Nat.le_of_ble_eq_true rfl, Nat.le_of_ble_eq_true rfl⟩, Nat.le_of_ble_eq_true rfl, Nat.le_of_ble_eq_true rfl⟩ hP hD hS hA [6] [0, 1, 2, 3, 4, 5, 7, 8] rfl rfl rfl (by decide) (by decide) hl.1 rfl (Nat.le_of_ble_eq_true rfl) rfl rfl rfl dL_same_70 (fun H locs hP hD hS => ?_)
            obtain ⟨hP, hD⟩ := x_perm (ws' := wSPo x ++ wFig (fun j => x (1 + j)) cy F ++ wIA a2 cy N2 w2 ++ wIA a3 cy N3 w3 ++ wIA a4 cy N4 w4) hP hD [0, 1, 2, 3, 4, 5, 8, 6, 7] (by decide) rfl rfl
            have hj132 : ∀ (l14_132 : Int32) (l5_132 : Int32) (l13_132 : Int32) (l12_132 : Int32) (l11_132 : Int32) (l10_132 : Int32) (l9_132 : Int32) (l8_132 : Int32) (l7_132 : Int32) (l6_132 : Int32) (l1_132 : Int32) (H : Heap) (locs : List Loc) (ls : Array Slot), G_L_same_j132 (G_L_same_L60 (G_L_same_L18 N2 N3 N4 F w2 w3 w4 n18) N2 N3 N4 F w2 w3 w4 n60) N2 N3 N4 F w2 w3 w4 l14_132 l5_132 l13_132 l12_132 l11_132 l10_132 l9_132 l8_132 l7_132 l6_132 l1_132 = some res → va_P (dC, dI) vwCl (wSPo x ++ wFig (fun j => x (1 + j)) cy F ++ wIA a2 cy N2 w2 ++ wIA a3 cy N3 w3 ++ wIA a4 cy N4 w4) H → va_D A (wSPo x ++ wFig (fun j => x (1 + j)) cy F ++ wIA a2 cy N2 w2 ++ wIA a3 cy N3 w3 ++ wIA a4 cy N4 w4) → va_S A s.heap H locs → lv_has ls 17 [(14, .int l14_132), (5, .int l5_132), (13, .int l13_132), (12, .int l12_132), (11, .int l11_132), (10, .int l10_132), (9, .int l9_132), (8, .int l8_132), (7, .int l7_132), (6, .int l6_132), (0, .ref (x 0)), (1, .int l1_132), (2, .ref a2), (3, .ref a3), (4, .ref a4)] → W p l e rm_L_same s mm args below meth cd H locs 0 0 Q (F0 mm 132 ls []) := by
              intro l14_132 l5_132 l13_132 l12_132 l11_132 l10_132 l9_132 l8_132 l7_132 l6_132 l1_132 H locs ls h hP hD hS hl
              unfold G_L_same_j132 at h
              refine lv_iinc (v := l14_132 + 1) (lv' := [(14, .int (l14_132 + 1)), (5, .int l5_132), (13, .int l13_132), (12, .int l12_132), (11, .int l11_132), (10, .int l10_132), (9, .int l9_132), (8, .int l8_132), (7, .int l7_132), (6, .int l6_132), (0, .ref (x 0)), (1, .int l1_132), (2, .ref a2), (3, .ref a3), (4, .ref a4)]) hx hb dL_same_132 hl (k := 0) rfl rfl (by decide) rfl (fun ls hl => ?_)
              refine lv_goto (tgt := 60) hx hb dL_same_135 (by decide) ?_
              exact ih60 (l14_132 + 1) l5_132 l13_132 l12_132 l11_132 l10_132 l9_132 l8_132 l7_132 l6_132 l1_132 H locs ls h hP hD hS (lv_sub hl [0, 1, 2, 3, 4, 5, 6, 7, 8, 9, 10, 11, 12, 13, 14] rfl)
            refine lv_if_ne (tgt := 79) hx hb dL_same_73 (by decide) (fun c73 => ?_) (fun c73 => ?_)
            · replace h := if_f h c73
              refine lv_iload hx hb dL_same_79 (lv_at hl 5 rfl) ?_
              refine lv_iload hx hb dL_same_81 (lv_at hl 0 rfl) ?_
              refine lv_aload_n hx hb dL_same_83 rfl (lv_at hl 12 rfl) ?_
              refine lv_aload_n hx hb dL_same_84 rfl (lv_at hl 13 rfl) ?_
              refine lv_aload hx hb dL_same_85 (lv_at hl 14 rfl) ?_
              obtain ⟨v87, e87, h⟩ := bnd h
              refine cS (av := [.int l10_60, .int l14_60, .ref a2, .ref a3, .ref a4]) (rest := []) (st1 := [.int v87]) (k1 := 0) (k2 := 0) hx hb hml hown htg hN hK (c_L_sees l dC dI cy a2 a3 a4 N2 N3 N4 w2 w3 w4 l10_60 l14_60 v87 e87) (g_S gw480 gw481 gw6 gw482) hdS_L_sees rfl ⟨⟨Nat.le_of_ble_eq_true rfl, Nat.le_of_ble_eq_true rfl⟩, Nat.le_of_ble_eq_true rfl, Nat.le_of_ble_eq_true rfl⟩ hP hD hS hA [6, 7, 8] [0, 1, 2, 3, 4, 5] rfl rfl rfl (by decide) (by decide) hl.1 rfl (Nat.le_of_ble_eq_true rfl) rfl rfl rfl dL_same_87 (fun H locs hP hD hS => ?_)
              obtain ⟨hP, hD⟩ := x_perm (ws' := wSPo x ++ wFig (fun j => x (1 + j)) cy F ++ wIA a2 cy N2 w2 ++ wIA a3 cy N3 w3 ++ wIA a4 cy N4 w4) hP hD [0, 1, 2, 3, 4, 5, 6, 7, 8] (by decide) rfl rfl
              refine lv_istore (lv' := [(15, .int v87), (14, .int l14_60), (5, .int l5_60), (13, .int l13_60), (12, .int l12_60), (11, .int l11_60), (10, .int l10_60), (9, .int l9_60), (8, .int l8_60), (7, .int l7_60), (6, .int l6_60), (0, .ref (x 0)), (1, .int l1_60), (2, .ref a2), (3, .ref a3), (4, .ref a4)]) hx hb dL_same_90 hl (by decide) rfl (fun ls hl => ?_)
              refine lv_iload hx hb dL_same_92 (lv_at hl 3 rfl) ?_
              refine lv_iload hx hb dL_same_94 (lv_at hl 0 rfl) ?_
              obtain ⟨b96, e96, h⟩ := bnd h
              have hr104 : ∀ (H : Heap) (locs : List Loc) (ls : Array Slot), va_P (dC, dI) vwCl (wSPo x ++ wFig (fun j => x (1 + j)) cy F ++ wIA a2 cy N2 w2 ++ wIA a3 cy N3 w3 ++ wIA a4 cy N4 w4) H → va_D A (wSPo x ++ wFig (fun j => x (1 + j)) cy F ++ wIA a2 cy N2 w2 ++ wIA a3 cy N3 w3 ++ wIA a4 cy N4 w4) → va_S A s.heap H locs → lv_has ls 17 [(15, .int v87), (14, .int l14_60), (5, .int l5_60), (13, .int l13_60), (12, .int l12_60), (11, .int l11_60), (10, .int l10_60), (9, .int l9_60), (8, .int l8_60), (7, .int l7_60), (6, .int l6_60), (0, .ref (x 0)), (1, .int l1_60), (2, .ref a2), (3, .ref a3), (4, .ref a4)] → W p l e rm_L_same s mm args below meth cd H locs 0 0 Q (F0 mm 104 ls [.int b96, .int l13_60]) := by
                intro H locs ls hP hD hS hl
                refine lv_iadd hx hb dL_same_104 ?_
                refine lv_istore (lv' := [(13, .int (l13_60 + b96)), (15, .int v87), (14, .int l14_60), (5, .int l5_60), (12, .int l12_60), (11, .int l11_60), (10, .int l10_60), (9, .int l9_60), (8, .int l8_60), (7, .int l7_60), (6, .int l6_60), (0, .ref (x 0)), (1, .int l1_60), (2, .ref a2), (3, .ref a3), (4, .ref a4)]) hx hb dL_same_105 hl (by decide) rfl (fun ls hl => ?_)
                refine lv_aload_n hx hb dL_same_107 rfl (lv_at hl 11 rfl) ?_
                refine lv_iload hx hb dL_same_108 (lv_at hl 5 rfl) ?_
                refine lv_iload hx hb dL_same_110 (lv_at hl 4 rfl) ?_
                refine lv_iload hx hb dL_same_112 (lv_at hl 2 rfl) ?_
                refine lv_bipush (v := 10) hx hb dL_same_114 (by decide) ?_
                refine lv_idiv hx hb dL_same_116 (by decide) ?_
                refine lv_iload hx hb dL_same_117 (lv_at hl 2 rfl) ?_
                refine lv_bipush (v := 10) hx hb dL_same_119 (by decide) ?_
                refine lv_irem hx hb dL_same_121 (by decide) ?_
                obtain ⟨v122, e122, h⟩ := bnd h
                rcases hv122 : v122 with k122 | u122
                · simp only [hv122] at h; cases h
                simp only [hv122] at h
                refine cV (av := [.int l11_60, .int l12_60, .int (l14_60 / 10), .int (l14_60 - l14_60 / 10 * 10)]) (rest := []) (st1 := [.int u122]) (k1 := 0) (k2 := 0) (ci := 3) (q0 := 0) hx hb hml hown htg hN hK (c0_X8_sees l dC dI cy x F l11_60 l12_60 (l14_60 / 10) (l14_60 - l14_60 / 10 * 10) u122 (by rw [e122, hv122])) (g_V gw483 gw484 gw485 gw7 gw486) hdV_X8_sees rfl ⟨⟨Nat.le_of_ble_eq_true rfl, Nat.le_of_ble_eq_true rfl⟩, Nat.le_of_ble_eq_true rfl, Nat.le_of_ble_eq_true rfl⟩ hP hD hS hA ⟨rfl, rfl⟩ rfl [0, 1, 2, 3, 4, 5] [6, 7, 8] rfl rfl rfl (by decide) (by decide) hl.1 rfl (Nat.le_of_ble_eq_true rfl) rfl rfl rfl dL_same_122 (fun H locs hP hD hS => ?_)
                obtain ⟨hP, hD⟩ := x_perm (ws' := wSPo x ++ wFig (fun j => x (1 + j)) cy F ++ wIA a2 cy N2 w2 ++ wIA a3 cy N3 w3 ++ wIA a4 cy N4 w4) hP hD [3, 4, 5, 6, 7, 8, 0, 1, 2] (by decide) rfl rfl
                refine lv_iload hx hb dL_same_125 (lv_at hl 1 rfl) ?_
                refine lv_icmp_eq (tgt := 132) hx hb dL_same_127 (by decide) (fun c127 => ?_) (fun c127 => ?_)
                · replace h := if_t h c127
                  exact hj132 l14_60 l5_60 (l13_60 + b96) l12_60 l11_60 l10_60 l9_60 l8_60 l7_60 l6_60 l1_60 H locs ls h hP hD hS (lv_sub hl [2, 3, 0, 4, 5, 6, 7, 8, 9, 10, 11, 12, 13, 14, 15] rfl)
                replace h := if_f h c127
                refine lv_iconst (v := 0) hx hb dL_same_130 (by decide) ?_
                obtain rfl := Option.some.inj h
                exact hE H locs 131 ls _ hP hD hS rfl (Or.inl rfl) dL_same_131
              have h := e96
              clear e96
              refine lv_if_eq (tgt := 103) hx hb dL_same_96 (by decide) (fun c96 => ?_) (fun c96 => ?_)
              · replace h := if_t h c96
                refine lv_iconst (v := 0) hx hb dL_same_103 (by decide) ?_
                obtain rfl := Option.some.inj h
                exact hr104 H locs ls hP hD hS hl
              replace h := if_f h c96
              refine lv_iconst (v := 1) hx hb dL_same_99 (by decide) ?_
              refine lv_goto (tgt := 104) hx hb dL_same_100 (by decide) ?_
              obtain rfl := Option.some.inj h
              exact hr104 H locs ls hP hD hS hl
            replace h := if_t h c73
            refine lv_goto (tgt := 132) hx hb dL_same_76 (by decide) ?_
            exact hj132 l14_60 l5_60 l13_60 l12_60 l11_60 l10_60 l9_60 l8_60 l7_60 l6_60 l1_60 H locs ls h hP hD hS (lv_sub hl [0, 1, 2, 3, 4, 5, 6, 7, 8, 9, 10, 11, 12, 13, 14] rfl)
        exact hL60 FU 0 (l5_18 + 1) 0 (l10_18 - l10_18 / 10 * 10) (l10_18 / 10) l10_18 l9_18 l8_18 l7_18 l6_18 l1_18 H locs ls h hP hD hS (lv_sub hl [0, 1, 2, 3, 4, 5, 6, 7, 8, 9, 10, 11, 12, 13, 14] rfl)
      replace h := if_t h c31
      refine lv_goto (tgt := 398) hx hb dL_same_34 (by decide) ?_
      exact hj398 l10_18 l9_18 l8_18 l7_18 l6_18 l5_18 l1_18 H locs ls h hP hD hS (lv_sub hl [0, 1, 2, 3, 4, 5, 6, 7, 8, 9, 10] rfl)
  exact hL18 FU 0 0 0 0 0 0 p1 H locs ls h hP hD hS (lv_sub hl [0, 1, 2, 3, 4, 5, 6, 7, 8, 9, 10] rfl)
