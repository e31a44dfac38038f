def past0 : PastS := (0, 0, fun _ => fig0)
def PWf (cy : Nat → ClassId) (ap : Nat → Nat → Nat) (i : Nat) : va_W := (List.range i).flatMap fun j => wFig (ap j) cy fig0
theorem PWf_succ {cy : Nat → ClassId} {ap : Nat → Nat → Nat} {i : Nat} {a : Nat → Nat} : PWf cy (fun j => if j = i then a else ap j) (i + 1) = PWf cy ap i ++ wFig a cy fig0 := by
  unfold PWf
  rw [List.range_succ, List.flatMap_append, List.flatMap_cons, List.flatMap_nil, List.append_nil]
  have e0 : (fun j => if j = i then a else ap j) i = a := if_pos rfl
  rw [e0]
  refine congrArg (fun z => z ++ wFig a cy fig0) ?_
  rw [List.flatMap_def, List.flatMap_def]
  refine congrArg _ (List.map_congr_left fun j hj => ?_)
  have h : j ≠ i := Nat.ne_of_lt (List.mem_range.mp hj)
  have e1 : (fun j => if j = i then a else ap j) j = ap j := if_neg h
  rw [e1]
theorem arr_ext {cA : ClassId} {n : Nat} {f g : Nat → Option Nat} (h : ∀ j, j < n → f j = g j) : vp_cell cA (n, .inr (.inr (.inr (.inr f)))) = vp_cell cA (n, .inr (.inr (.inr (.inr g)))) := by
  rw [vp_cell_q, vp_cell_q]
  unfold arrV
  have e : (fun j : Fin n => va_rf (f j.val)) = fun j : Fin n => va_rf (g j.val) := by
    funext j
    rw [h j.val j.isLt]
  rw [e]
abbrev rm_X3_init : Room := { frames := 2, cells := 71, slots := 1834, locals := 40 }
theorem hdS_X3_init : yX3_init.cls ≠ "java/lang/invoke/MethodHandle" ∧ yX3_init.cls ≠ "java/lang/invoke/VarHandle" ∧ (parseMethodDescriptor yX3_init.desc).map (fun d => d.parameters.length) = some 0 := by decide +kernel
set_option maxHeartbeats 4000000 in
set_option maxRecDepth 100000 in
theorem c_X3_init (l : Launch) (dC : Nat → ClassId) (dI : Nat → Nat → Nat) (cy : Nat → ClassId) (h0 : Nat) : CN l (dC, dI) (TY cy) yX3_init cX3_init 2 rm_X3_init [.ref h0] [(h0, .inr (1, [.null, .int 0, .int 0]))] (fun w => ∃ a : Nat → Nat, a 0 = h0 ∧ w = wP2 a cy past0 ++ wPF a cy (fun _ => fig0)) := by
  refine CN.mk (own := RX3) ⟨by decide, rfl, rfl⟩ (Nat.le_of_ble_eq_true rfl) ?_
  intro p e s mm args below meth cd A Q hx hb hml hown hin htg hN hO hK hA hP hD hS hE ls hl
  have hl : lv_has ls 2 [(0, .ref h0)] := hl
  obtain ⟨H, hH⟩ : ∃ H, H = s.heap := ⟨_, rfl⟩
  obtain ⟨locs, hlocs⟩ : ∃ locs : List Loc, locs = [] := ⟨_, rfl⟩
  rw [← hlocs] at hS ⊢
  have hS : va_S A s.heap H locs := by rw [hH]; exact hS
  rw [← hH] at hP ⊢
  refine lv_aload_n hx hb dX3_init_0 rfl (lv_at hl 0 rfl) ?_
  refine W.objInit hx hb hown (htg _ gw69) (htg _ gw29) (htg _ gw30) rfl (by rw [hml]; exact hl.1) rfl dX3_init_1 (Nat.le_of_ble_eq_true rfl) (Nat.le_of_ble_eq_true rfl) ?_
  refine W.eq (g2 := F0 mm 4 ls []) rfl ?_
  refine lv_aload_n hx hb dX3_init_4 rfl (lv_at hl 0 rfl) ?_
  refine lv_bipush (v := 14) hx hb dX3_init_5 (by decide) ?_
  refine x_newq (own := RX3) hx hb hown gw70 htg hO hK 3 rfl hP hD hS hA 14 (k1 := 1) (k2 := 14) (by decide) (by decide) (by decide) rfl rfl (by decide) (by decide) dX3_init_7 (fun q7 H hP hD hS => ?_)
  have hP : va_P (dC, dI) vwCl ([(h0, .inr (1, [.null, .int 0, .int 0])), (q7, .inl (cy 3, 14, .inr (.inr (.inr (.inr (fun _ => none))))))]) H := hP
  have hD : va_D A ([(h0, .inr (1, [.null, .int 0, .int 0])), (q7, .inl (cy 3, 14, .inr (.inr (.inr (.inr (fun _ => none))))))]) := hD
  refine va_putF (D := (dC, dI)) (ci := 1) (v := .ref q7) (ty := .array (.object "SquaredPaper$Figure")) (C := RX3) (T := TX3) (N := 3) hx hb htg inX3 tyX3 tyX3_ok nmX3 hown hK hP hD hS 0 rfl rfl 0 (by decide) (htg _ gw73) (fun _ h9 => h9) rfl hin rfl (by decide +kernel) rfl rfl (Nat.le_of_ble_eq_true rfl) dX3_init_10 (fun H locs hP hD hS => ?_)
  have hL : ∀ (n i : Nat), i + n = 14 → ∀ (ap : Nat → Nat → Nat) (f : Nat → Option Nat) (H : Heap) (locs : List Loc) (ls : Array Slot), (∀ j, j < i → f j = some (ap j 0)) →
      va_P (dC, dI) vwCl ([(h0, .inr (1, [.ref q7, .int 0, .int 0])), (q7, .inl (cy 3, 14, .inr (.inr (.inr (.inr f)))))] ++ PWf cy ap i) H → va_D A ([(h0, .inr (1, [.ref q7, .int 0, .int 0])), (q7, .inl (cy 3, 14, .inr (.inr (.inr (.inr f)))))] ++ PWf cy ap i) → va_S A s.heap H locs → lv_has ls 2 [(1, .int (nI i)), (0, .ref h0)] →
      W p l e rm_X3_init s mm args below meth cd H locs (1 + 5 * i) (14 + 130 * i) Q (F0 mm 15 ls []) := by
    intro n
    induction n with
    | zero =>
      intro i hi ap f H locs ls hf hP hD hS hl
      obtain rfl : i = 14 := by omega
      refine lv_iload_n hx hb dX3_init_15 rfl (lv_at hl 0 rfl) ?_
      refine lv_bipush (v := 14) hx hb dX3_init_16 (by decide) ?_
      refine lv_icmp_ge (tgt := 40) hx hb dX3_init_18 (by decide) (fun c18 => ?_) (fun c18 => absurd (by decide : (14 : Int32) ≤ nI 14) c18)
      have ha : ∀ i j : Nat, j < 5 → (fun n : Nat => if n = 0 then h0 else if n = 1 then q7 else ap ((n - 2) / 5) ((n - 2) % 5)) (2 + 5 * i + j) = ap i j := by
        intro i j hj
        show (if 2 + 5 * i + j = 0 then h0 else if 2 + 5 * i + j = 1 then q7 else ap ((2 + 5 * i + j - 2) / 5) ((2 + 5 * i + j - 2) % 5)) = ap i j
        rw [if_neg (by omega), if_neg (by omega), show (2 + 5 * i + j - 2) / 5 = i by omega, show (2 + 5 * i + j - 2) % 5 = j by omega]
      have hw : wPF (fun n : Nat => if n = 0 then h0 else if n = 1 then q7 else ap ((n - 2) / 5) ((n - 2) % 5)) cy (fun _ => fig0) = PWf cy ap 14 := by
        unfold wPF PWf
        rw [List.flatMap_def, List.flatMap_def]
        refine congrArg _ (List.map_congr_left fun i hi => ?_)
        have e0 := ha i 0 (by omega)
        have e1 := ha i 1 (by omega)
        have e2 := ha i 2 (by omega)
        have e3 := ha i 3 (by omega)
        have e4 := ha i 4 (by omega)
        unfold wFig
        dsimp only at e0 e1 e2 e3 e4 ⊢
        rw [e0, e1, e2, e3, e4]
      refine hE H locs 40 ls (wP2 (fun n : Nat => if n = 0 then h0 else if n = 1 then q7 else ap ((n - 2) / 5) ((n - 2) % 5)) cy past0 ++ wPF (fun n : Nat => if n = 0 then h0 else if n = 1 then q7 else ap ((n - 2) / 5) ((n - 2) % 5)) cy (fun _ => fig0)) ⟨_, rfl, rfl⟩ ?_ ?_ hS dX3_init_40
      · rw [hw]
        intro k q hk
        rcases k with _ | _ | k
        · exact hP 0 q hk
        · obtain rfl := Option.some.inj hk
          have h1 := hP 1 _ rfl
          refine Eq.trans (b := some (vp_cell (cy 3) (14, .inr (.inr (.inr (.inr f)))))) h1 (congrArg some (arr_ext fun j hj => ?_))
          have := ha j 0 (by omega)
          dsimp only at this
          show f j = some (if 2 + 5 * j = 0 then h0 else if 2 + 5 * j = 1 then q7 else ap ((2 + 5 * j - 2) / 5) ((2 + 5 * j - 2) % 5))
          rw [hf j hj]
          exact congrArg some this.symm
        · exact hP (k + 2) q hk
      · rw [hw]
        exact ⟨fun i j p q hi hj => by
          have key : ∀ (k : Nat) (q : Nat × va_E), (wP2 (fun n : Nat => if n = 0 then h0 else if n = 1 then q7 else ap ((n - 2) / 5) ((n - 2) % 5)) cy past0 ++ PWf cy ap 14)[k]? = some q → ∃ q0, ([(h0, .inr (1, [.ref q7, .int 0, .int 0])), (q7, .inl (cy 3, 14, .inr (.inr (.inr (.inr f)))))] ++ PWf cy ap 14 : va_W)[k]? = some q0 ∧ q0.1 = q.1 := by
            intro k q hk
            rcases k with _ | _ | k
            · exact ⟨q, hk, rfl⟩
            · obtain rfl := Option.some.inj hk
              exact ⟨_, rfl, rfl⟩
            · exact ⟨q, hk, rfl⟩
          obtain ⟨p0, hp0, e0⟩ := key i p hi
          obtain ⟨q0, hq0, e1⟩ := key j q hj
          intro hpq
          exact hD.1 i j p0 q0 hp0 hq0 (by rw [e0, e1]; exact hpq), fun k q hk => by
          rcases k with _ | _ | k
          · exact hD.2 0 q hk
          · obtain rfl := Option.some.inj hk
            have h1 := hD.2 1 (q7, .inl (cy 3, 14, .inr (.inr (.inr (.inr f))))) rfl
            exact h1
          · exact hD.2 (k + 2) q hk⟩
    | succ n ih =>
      intro i hi ap f H locs ls hf hP hD hS hl
      have hi14 : i < 14 := by omega
      refine lv_iload_n hx hb dX3_init_15 rfl (lv_at hl 0 rfl) ?_
      refine lv_bipush (v := 14) hx hb dX3_init_16 (by decide) ?_
      refine lv_icmp_ge (tgt := 40) hx hb dX3_init_18 (by decide) (fun c18 => absurd c18 (nI_ge (b := 14) hi14 (by decide))) (fun c18 => ?_)
      refine lv_aload_n hx hb dX3_init_21 rfl (lv_at hl 1 rfl) ?_
      refine va_get (D := (dC, dI)) (ci := 1) (v := .ref q7) (C := RX3) (T := TX3) (N := 3) hx hb htg inX3 hown hK hP 0 rfl rfl 0 (by decide) (htg _ gw73) (fun _ h9 => h9) rfl dX3_init_22 ?_
      refine lv_iload_n hx hb dX3_init_25 rfl (lv_at hl 0 rfl) ?_
      refine va_new (ci := 0) (fs := [.int 0, .int 0, .null, .null, .null, .null]) (C := RX1) (T := TX1) (N := 6) hx hb htg inX1 tyX1 tyX1_ok hown (htg _ gw70) (htg _ gw32) (htg _ gw8) hK hP hD hS hA rfl (fun j hj => by rcases (by omega : j = 0 ∨ j = 1 ∨ j = 2 ∨ j = 3 ∨ j = 4 ∨ j = 5) with rfl | rfl | rfl | rfl | rfl | rfl <;> rfl) (show 1 + 5 * i + 1 ≤ 71 by omega) (show 14 + 130 * i + 6 ≤ 1834 by omega) dX3_init_26 (fun q26 H hP hD hS => ?_)
      refine lv_dup hx hb dX3_init_29 rfl ?_
      refine cNIp (rest := [.ref q26, .int (nI i), .ref q7]) (k1 := 1 + 5 * (i + 1)) (k2 := 14 + 130 * (i + 1)) hx hb hml hown htg hN hO hK (c_X1_init l dC dI cy q26) gw72 gw34 gw8 gw35 rfl hdS_X1_init ⟨⟨Nat.le_of_ble_eq_true rfl, Nat.le_of_ble_eq_true rfl⟩, show 1 + 5 * i + 1 + 4 ≤ 71 by omega, show 14 + 130 * i + 6 + 124 ≤ 1834 by omega⟩ hP hD hS hA List.perm_append_comm hl.1 rfl (Nat.le_of_ble_eq_true rfl) (show 1 + 5 * i + 1 + 4 = _ by omega) (show 14 + 130 * i + 6 + 124 = _ by omega) dX3_init_30 (fun H locs w' hg hP hD hS => ?_)
      obtain ⟨a, rfl, rfl⟩ := hg
      have hpm : (([(h0, .inr (1, [.ref q7, .int 0, .int 0])), (q7, .inl (cy 3, 14, .inr (.inr (.inr (.inr f)))))] ++ PWf cy ap i) ++ wFig a cy fig0 : va_W).Perm ([(h0, .inr (1, [.ref q7, .int 0, .int 0])), (q7, .inl (cy 3, 14, .inr (.inr (.inr (.inr f)))))] ++ wFig a cy fig0 ++ PWf cy ap i) := by
        rw [List.append_assoc, List.append_assoc]
        exact List.perm_append_comm.append_left _
      have hP := hP.perm hpm
      have hD := hD.perm hpm
      refine va_astq hx hb hK hP hD hS 1 3 2 0 rfl rfl rfl rfl (vp_in_nI hi14 (by decide)) dX3_init_33 (fun H locs hP hD hS => ?_)
      refine lv_iinc (v := nI (i + 1)) (lv' := [(1, .int (nI (i + 1))), (0, .ref h0)]) hx hb dX3_init_34 hl (k := 0) rfl (nI_succ i).symm (by decide) rfl (fun ls hl => ?_)
      refine lv_goto (tgt := 15) hx hb dX3_init_37 (by decide) ?_
      have hpm2 : ([(h0, .inr (1, [.ref q7, .int 0, .int 0])), (q7, .inl (cy 3, 14, .inr (.inr (.inr (.inr (va_up f (nI i).toNatClampNeg (some (a 0))))))))] ++ wFig a cy fig0 ++ PWf cy ap i : va_W).Perm ([(h0, .inr (1, [.ref q7, .int 0, .int 0])), (q7, .inl (cy 3, 14, .inr (.inr (.inr (.inr (va_up f (nI i).toNatClampNeg (some (a 0))))))))] ++ PWf cy (fun j => if j = i then a else ap j) (i + 1)) := by
        rw [PWf_succ, List.append_assoc]
        exact List.perm_append_comm.append_left _
      have hP : va_P (dC, dI) vwCl ([(h0, .inr (1, [.ref q7, .int 0, .int 0])), (q7, .inl (cy 3, 14, .inr (.inr (.inr (.inr (va_up f (nI i).toNatClampNeg (some (a 0))))))))] ++ wFig a cy fig0 ++ PWf cy ap i) H := hP
      have hD : va_D A ([(h0, .inr (1, [.ref q7, .int 0, .int 0])), (q7, .inl (cy 3, 14, .inr (.inr (.inr (.inr (va_up f (nI i).toNatClampNeg (some (a 0))))))))] ++ wFig a cy fig0 ++ PWf cy ap i) := hD
      refine ih (i + 1) (by omega) (fun j => if j = i then a else ap j) _ H locs ls (fun j hj => ?_) (hP.perm hpm2) (hD.perm hpm2) hS hl
      rw [nI_clamp (Nat.lt_trans hi14 (by decide))]
      by_cases hji : j = i
      · subst hji
        simp [va_up]
      · simp only [va_up, if_neg hji]
        exact hf j (by omega)
  refine lv_iconst (v := 0) hx hb dX3_init_13 (by decide) ?_
  refine lv_istore_n (lv' := [(1, .int (nI 0)), (0, .ref h0)]) hx hb dX3_init_14 rfl hl (by decide) rfl (fun ls hl => ?_)
  exact hL 14 0 rfl (fun _ _ => 0) (fun _ => none) H locs ls (fun j hj => absurd hj (Nat.not_lt_zero j)) hP hD hS hl
