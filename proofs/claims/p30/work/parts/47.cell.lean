/-! the script's cell, read -/
abbrev lwA (s : State) : Nat → Prop := fun q => s.heap.size ≤ q
set_option maxHeartbeats 4000000 in
set_option maxRecDepth 100000 in
theorem k_L_cell (l : Launch) (dC : Nat → ClassId) (dI : Nat → Nat → Nat) (cy : Nat → ClassId) (b L : Nat) (xs : Nat → Int32) (p1 : Int32) (res : Int32) (h : G_L_cell L xs p1 = some res) : SC l (dC, dI) (TY cy) yL_cell cL_cell 2 rm_L_cell [.ref b, .int p1] b L xs (some (.int res)) := by
  intro sz
  refine Met.ofW (cc := cL_cell) (maxL := 2) (ret := some .int) (by decide) rfl ?_
  intro p e s m args below meth cd s₁ B hml hv
  obtain ⟨rfl, hsz, hXs, hbl, hK, hN⟩ := hv
  have hts := atoms_spec (ws := wsU yL_cell cL_cell 2 (some .int)) B.pre
  have htg : ∀ w ∈ GW, w.before (List.toArray [.ref b, .int p1]) s = true := fun w hw => hts w (List.mem_cons_of_mem _ hw)
  have hx := B.exec
  have hb := B.bytes
  have hr := B.returns
  have hlk := B.notSynchronized
  have hown : s.vm.findClass RL = some m.cls := findClass_of_methodNamed B.named
  subst hsz
  have hl := lv_entry ([.ref b, .int p1] : List Value) (n := 2) (Nat.le_of_ble_eq_true rfl)
  rw [lg_entry_eq]
  generalize (lg_sl ([.ref b, .int p1] : List Value) ++ List.replicate (2 - (lg_sl ([.ref b, .int p1] : List Value)).length) Slot.unset).toArray = ls at hl ⊢
  have hl : lv_has ls 2 [(0, .ref b), (1, .int p1)] := hl
  have hS : va_S (va_A [] s.heap.size) s.heap s.heap [] := va_S.rf
  have hP : va_P (dC, dI) vwCl [] s.heap := fun k q h => by simp at h
  have hD : va_D (va_A [] s.heap.size) [] := ⟨fun i j p q h => by simp at h, fun k q h => by simp at h⟩
  have hbA : ¬ va_A [] s.heap.size b := by
    intro q
    rcases q with ⟨k, z, q⟩ | q
    · simp at q
    · exact absurd hbl (Nat.not_lt.mpr q)
  have fin : ∀ (ls : Array Slot) (v : Int32), v = res → W p l e rm_L_cell s m (List.toArray [.ref b, .int p1]) below meth cd s.heap [] 0 0 (MQ below (CTq (dC, dI) [] (va_A [] s.heap.size) (some (.int res))) (List.toArray [.ref b, .int p1]) s rm_L_cell.cells rm_L_cell.slots (va_A [] s.heap.size)) (F0 m 21 ls [.int v]) :=
    fun ls v ev => W.iret (v := v) hx hb hr (fun t ht hW => ⟨by rw [ev], by rw [ht]; exact hP, hD, hS.F ht⟩) hS.2.2 dL_cell_21 hlk
  unfold G_L_cell at h
  refine lv_iload_n hx hb dL_cell_0 rfl (lv_at hl 1 rfl) ?_
  refine lv_aload_n hx hb dL_cell_1 rfl (lv_at hl 0 rfl) ?_
  refine va_slen hx hb hXs hbl hbA hS dL_cell_2 ?_
  refine lv_icmp_ge (tgt := 12) hx hb dL_cell_3 (by decide) (fun c3 => ?_) (fun c3 => ?_)
  · replace h := if_t h c3
    refine lv_ldc (v := 1597334677) hx hb hown (htg _ gw318) dL_cell_12 ?_
    refine lv_iload_n hx hb dL_cell_14 rfl (lv_at hl 1 rfl) ?_
    refine lv_iconst (v := 1) hx hb dL_cell_15 (by decide) ?_
    refine lv_iadd hx hb dL_cell_16 ?_
    refine lv_imul hx hb dL_cell_17 ?_
    refine lv_ldc (v := 1009589775) hx hb hown (htg _ gw319) dL_cell_18 ?_
    refine lv_iadd hx hb dL_cell_20 ?_
    exact fin _ _ (Option.some.inj h)
  replace h := if_f h c3
  refine lv_aload_n hx hb dL_cell_6 rfl (lv_at hl 0 rfl) ?_
  refine lv_iload_n hx hb dL_cell_7 rfl (lv_at hl 1 rfl) ?_
  obtain ⟨v8, e8, h⟩ := bnd h
  obtain ⟨hin, e9⟩ := rd_in e8
  refine va_sld hx hb hXs hbl hbA hS hin dL_cell_8 ?_
  refine lv_goto (tgt := 21) hx hb dL_cell_9 (by decide) ?_
  exact fin _ _ (e9.trans (Option.some.inj h))
