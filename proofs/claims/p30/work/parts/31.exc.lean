def exn (k : Nat) : String := match k with
  | 1 => "java/lang/IndexOutOfBoundsException"
  | 2 => "java/lang/IllegalArgumentException"
  | _ => "java/lang/IllegalStateException"
def strs : List (Nat × String) := [(121, "what is not 0 to 9"), (148, "what is not 0 to 5"), (307, "there is no such ring or corner"), (181, "the point is not on the paper"), (196, "a rule would not hold"), (204, "the ring is full, or a rule would not hold"), (209, "the ring has 3 corners, or a rule would not hold"), (211, "x or y is not 0 to 14"), (216, "there are 4 rings, or a rule would not hold"), (263, "the row is not on the paper")]
def XWs : List Cond := [.castable "java/lang/IndexOutOfBoundsException" "java/lang/IndexOutOfBoundsException", .castable "java/lang/IllegalArgumentException" "java/lang/IllegalArgumentException", .castable "java/lang/IllegalStateException" "java/lang/IllegalStateException", .declares ⟨"java/lang/RuntimeException", "<init>", "()V"⟩, .declares ⟨"java/lang/RuntimeException", "<init>", "(Ljava/lang/String;)V"⟩, .declares ⟨"java/lang/Exception", "<init>", "()V"⟩, .declares ⟨"java/lang/Exception", "<init>", "(Ljava/lang/String;)V"⟩, .declares ⟨"java/lang/Throwable", "<init>", "()V"⟩, .declares ⟨"java/lang/Throwable", "<init>", "(Ljava/lang/String;)V"⟩]
def NX (U : State) : Prop := ∀ w ∈ XWs, va_Nw w U
theorem NX.warm {s U : State} (hW : s.WarmedH U.vm) (h : NX s) : NX U := by
  intro w hw
  have h1 := h w hw
  simp only [XWs, List.mem_cons, List.not_mem_nil, or_false] at hw
  rcases hw with rfl | rfl | rfl | rfl | rfl | rfl | rfl | rfl | rfl
  all_goals first | exact va_Nw.warmC hW h1 | exact va_Nw.warmD hW h1
theorem NX.same {u U : State} (h : u.vm = U.vm) (hN : NX u) : NX U := by
  intro w hw
  have h1 := hN w hw
  simp only [XWs, List.mem_cons, List.not_mem_nil, or_false] at hw
  rcases hw with rfl | rfl | rfl | rfl | rfl | rfl | rfl | rfl | rfl
  all_goals exact va_Nw.same rfl h h1
theorem XWs_on : ∀ w ∈ XWs, w.onTables = true := by decide +kernel
def EX (A : Nat → Prop) (U : State) (H : Heap) : Prop := (∀ q ∈ strs, ∃ sa, vk_R RX8 q.1 q.2 sa U) ∧ vx_Zq Bundle.tN "UNASSIGNED_STACK" Bundle.steD A U H ∧ vx_Zq Bundle.tN "SUPPRESSED_SENTINEL" Bundle.listD A U H ∧ NX U
theorem EX.warm {A B : Nat → Prop} {s U : State} {H0 H : Heap} {locs : List Loc} (hW : s.WarmedH U.vm) (h : EX A s H0) (hS : va_S A H0 H locs) (hBA : ∀ q, B q → A q) : EX B U H :=
  ⟨fun q hq => (h.1 q hq).imp (fun sa h => vk_R.warm hW h), ((h.2.1.kept hS.2.1).narrow hBA).moved hW.alike, ((h.2.2.1.kept hS.2.1).narrow hBA).moved hW.alike, h.2.2.2.warm hW⟩
theorem EX.same {A : Nat → Prop} {u U : State} {H : Heap} (hv : U.vm = u.vm) (h : EX A u H) : EX A U H :=
  ⟨fun q hq => (h.1 q hq).imp (fun sa h => vk_R.same hv h), h.2.1.moved (by rw [hv]; exact Vm.Alike.refl _), h.2.2.1.moved (by rw [hv]; exact Vm.Alike.refl _), h.2.2.2.same hv.symm⟩
def exnm : List String := ["java/lang/RuntimeException", "java/lang/Exception"]
theorem exat_1 : ∀ w ∈ vx_atS RX8 302 (exn 1) exnm, w ∈ GW ∨ w ∈ XWs := fun w hw => of_decide_eq_true (List.all_eq_true.mp (by decide +kernel : (vx_atS RX8 302 (exn 1) exnm).all (fun w => decide (w ∈ GW ∨ w ∈ XWs)) = true) w hw)
theorem exgo_1 : ∀ w ∈ vx_atS RX8 302 (exn 1) exnm, vx_ot w = true := fun w hw => List.all_eq_true.mp (by decide +kernel : (vx_atS RX8 302 (exn 1) exnm).all vx_ot = true) w hw
theorem exat_2 : ∀ w ∈ vx_atS RX8 60 (exn 2) exnm, w ∈ GW ∨ w ∈ XWs := fun w hw => of_decide_eq_true (List.all_eq_true.mp (by decide +kernel : (vx_atS RX8 60 (exn 2) exnm).all (fun w => decide (w ∈ GW ∨ w ∈ XWs)) = true) w hw)
theorem exgo_2 : ∀ w ∈ vx_atS RX8 60 (exn 2) exnm, vx_ot w = true := fun w hw => List.all_eq_true.mp (by decide +kernel : (vx_atS RX8 60 (exn 2) exnm).all vx_ot = true) w hw
theorem exat_3 : ∀ w ∈ vx_atS RX8 71 (exn 3) exnm, w ∈ GW ∨ w ∈ XWs := fun w hw => of_decide_eq_true (List.all_eq_true.mp (by decide +kernel : (vx_atS RX8 71 (exn 3) exnm).all (fun w => decide (w ∈ GW ∨ w ∈ XWs)) = true) w hw)
theorem exgo_3 : ∀ w ∈ vx_atS RX8 71 (exn 3) exnm, vx_ot w = true := fun w hw => List.all_eq_true.mp (by decide +kernel : (vx_atS RX8 71 (exn 3) exnm).all vx_ot = true) w hw
/-! contracts of methods that may throw: the outcome is a given value -/
def CTXp (D : va_G) (tys : List (ClassId × FieldType)) (args : List Value) (ws : va_W) (sz : Nat) : Array Value → State → Prop := va_Pc args (fun U => U.heap.size = sz ∧ va_P D vwCl ws U.heap ∧ va_K D vwCl tys U ∧ va_D (fun _ => True) ws ∧ NW U ∧ EX (va_A ws sz) U U.heap)
def CTXq (D : va_G) (ws' : va_W) (A : Nat → Prop) (out : Sum Nat (Option Value)) : Array Value → State → Outcome → State → Prop := fun _ st oc t => (∃ ret, out = .inr ret ∧ oc = .returned ret) ∧ va_P D vwCl ws' t.heap ∧ va_D A ws' ∧ va_F A st t
def CTXx (D : va_G) (ws' : va_W) (A : Nat → Prop) (out : Sum Nat (Option Value)) : String → State → State → Prop := fun E st t => (∃ k, out = .inl k ∧ E = exn k) ∧ va_P D vwCl ws' t.heap ∧ va_D A ws' ∧ va_F A st t
def CTX (l : Launch) (D : va_G) (tys : List (ClassId × FieldType)) (y : MethodName) (c : ByteArray) (n : Nat) (r : Option FieldType) (rm : Room) (args : List Value) (ws ws' : va_W) (out : Sum Nat (Option Value)) : Prop :=
  ∀ sz : Nat, vx_Met l y (wsU y c n r) rm (CTXp D tys args ws sz) (CTXq D ws' (va_A ws sz) out) (CTXx D ws' (va_A ws sz) out) rm.cells rm.slots (va_A ws sz)
theorem CTXp.blind {D : va_G} {tys : List (ClassId × FieldType)} {args : List Value} {ws : va_W} {sz : Nat} : FrameBlind (CTXp D tys args ws sz) := by
  intro a U g mk q
  obtain ⟨q0, q1, qP, qK, qD, qN, qE⟩ := q
  exact ⟨q0, q1, qP, va_K.moved (u := U) (U := U.calling g mk a) (Vm.Alike.refl U.vm) qK, qD, NW.same (u := U) (U := U.calling g mk a) rfl qN, EX.same (u := U) (U := U.calling g mk a) rfl qE⟩
section EXR
variable {p : Program} {l : Launch} {e : Env} {R : Room} {s : State} {m : MethodId} {args : Array Value} {below : List Frame} {meth : Method} {cd : Code} {H : Heap} {locs : List Loc} {cells slots : Nat} {Q : State → Prop}
variable {pc : Nat} {ls : Array Slot} {rest st0 : List Value} {A0 : Nat → Prop} {H0 : Heap} {D : va_G} {tys : List (ClassId × FieldType)}
theorem CTX.mk {l : Launch} {D : va_G} {tys : List (ClassId × FieldType)} {y : MethodName} {c : ByteArray} {n : Nat} {r : Option FieldType} {rm : Room} {av : List Value} {ws ws' : va_W} {out : Sum Nat (Option Value)} {own : String}
    (hlt : l.stackTraces = false) (hy : plainName y.cls = true ∧ y.cls = own) (hfit : (lg_sl av).length ≤ n)
    (body : ∀ (p : Program) (e : Env) (s : State) (m : MethodId) (args : Array Value) (below : List Frame) (meth : Method) (cd : Code) (A : Nat → Prop) (Q : State → Prop), p.tables.exec = Jvm.exec → cd.code = c → cd.maxLocals = n → s.vm.findClass own = some m.cls → (∀ w ∈ GW, w.before args s = true) → NW s → va_K D vwCl tys s → EX A s s.heap → (∀ q : Nat, s.heap.size ≤ q → A q) → va_P D vwCl ws s.heap → va_D A ws → va_S A s.heap s.heap [] →
      (∀ (H : Heap) (locs : List Loc) (k1 k2 : Nat) (pc : Nat) (ls : Array Slot) (v : Int32), va_P D vwCl ws' H → va_D A ws' → va_S A s.heap H locs → k1 ≤ rm.cells → k2 ≤ rm.slots → out = .inr (some (.int v)) → (∃ ty, r = some ty ∧ narrow ty (.int v) = .int v) → decode c pc = .ok (.ireturn, 1) → W p l e rm s m args below meth cd H locs k1 k2 Q (F0 m pc ls [.int v])) →
      (∀ (H : Heap) (locs : List Loc) (k1 k2 : Nat) (pc : Nat) (ls : Array Slot), va_P D vwCl ws' H → va_D A ws' → va_S A s.heap H locs → k1 ≤ rm.cells → k2 ≤ rm.slots → out = .inr none → r = none → decode c pc = .ok (.return_, 1) → W p l e rm s m args below meth cd H locs k1 k2 Q (F0 m pc ls [])) →
      (∀ (H : Heap) (locs : List Loc) (k1 k2 : Nat) (pc : Nat) (ls : Array Slot) (ik is ic k : Nat) (text : String), va_P D vwCl ws' H → va_D A ws' → va_S A s.heap H locs → k1 + 1 ≤ rm.cells → k2 + 6 ≤ rm.slots → 5 < rm.frames → 82 ≤ rm.locals → out = .inl k → own = RX8 → ls.size = n → (is, text) ∈ strs → Cond.classLink RX8 ik (exn k) ∈ GW → Cond.initialized (exn k) ∈ GW → (∀ w ∈ vx_atS RX8 ic (exn k) exnm, w ∈ GW ∨ w ∈ XWs) → (∀ w ∈ vx_atS RX8 ic (exn k) exnm, vx_ot w = true) → Bundle.fit (exn k) = true → decode c pc = .ok (.new ik, 3) → decode c (pc + 3) = .ok (.dup, 1) → ((decode c (pc + 4) = .ok (.ldc is, 2) ∧ decode c (pc + 6) = .ok (.invokespecial ic, 3) ∧ decode c (pc + 9) = .ok (.athrow, 1)) ∨ (decode c (pc + 4) = .ok (.ldc_w is, 3) ∧ decode c (pc + 7) = .ok (.invokespecial ic, 3) ∧ decode c (pc + 10) = .ok (.athrow, 1))) →
        W p l e rm s m args below meth cd H locs k1 k2 Q (F0 m pc ls [])) →
      (∀ (H : Heap) (locs : List Loc) (k1 k2 : Nat) (pc : Nat) (ls : Array Slot) (rest : List Value) (k : Nat) (q : Nat) (ce : Cell), va_P D vwCl ws' H → va_D A ws' → va_S A s.heap H locs → k1 ≤ rm.cells → k2 ≤ rm.slots → out = .inl k → H[q]? = some ce → ce.vm = .none → s.vm.findClass (exn k) = some ce.cls → vx_W p l e rm s m args below meth cd H locs k1 k2 Q (F0 m pc ls rest) q) →
      (∀ ls : Array Slot, lv_has ls n (lv_args 0 av) → W p l e rm s m args below meth cd s.heap [] 0 0 Q (F0 m 0 ls []))) :
    CTX l D tys y c n r rm av ws ws' out := by
  intro sz
  refine vx_ofW (cc := c) (maxL := n) (ret := r) hy.1 rfl ?_
  intro p e s m args below meth cd s₁ B hml htab hv
  obtain ⟨rfl, hsz, hP, hK, hD0, hN, hE⟩ := hv
  have hts := atoms_spec (ws := wsU y c n r) B.pre
  have htg : ∀ w ∈ GW, w.before (List.toArray av) s = true := fun w hw => hts w (List.mem_cons_of_mem _ hw)
  have hx := B.exec
  have hb := B.bytes
  have hr := B.returns
  have hlk := B.notSynchronized
  have hown : s.vm.findClass own = some m.cls := by rw [← hy.2]; exact findClass_of_methodNamed B.named
  subst hsz
  have hl := lv_entry av (n := n) hfit
  rw [lg_entry_eq]
  refine body p e s m _ below meth cd _ _ hx hb hml hown htg hN hK hE (fun q h => Or.inr h) hP (hD0.self (sz := s.heap.size)) va_S.rf ?_ ?_ ?_ ?_ _ hl
  · intro H locs k1 k2 pc ls v hP hD hS h1 h2 ho hn hdg
    obtain ⟨ty, hn1, hn2⟩ := hn
    refine W.widen h1 h2 ?_
    refine vx_ret ?_
    exact W.zret (v := v) hx hb (hr.trans hn1) hn2 (fun t ht hW => ⟨⟨_, ho, rfl⟩, by rw [ht]; exact hP, hD, hS.F ht⟩) hS.2.2 hdg hlk
  · intro H locs k1 k2 pc ls hP hD hS h1 h2 ho hn hdg
    refine W.widen h1 h2 ?_
    refine vx_ret ?_
    exact W.vret hx hb (hr.trans hn) (fun t ht hW => ⟨⟨_, ho, rfl⟩, by rw [ht]; exact hP, hD, hS.F ht⟩) hS.2.2 hdg hlk
  · intro H locs k1 k2 pc ls ik is ic k text hP hD hS h1 h2 h3 h4 ho hoe hsz hst g1 g2 g3 g4 hfit d0 d3 d
    obtain ⟨sa, hsa⟩ := hE.1 _ hst
    have hgood : ∀ w ∈ Cond.classLink RX8 ik (exn k) :: Cond.initialized (exn k) :: vx_atS RX8 ic (exn k) exnm, vx_ot w = true := by
      intro w hw
      have ok : ∀ w ∈ GW, vx_ot w = true := fun w hw => by unfold vx_ot; rw [(List.mem_filter.mp hw).2]; exact Bool.or_true _
      rcases List.mem_cons.mp hw with rfl | hw
      · exact ok _ g1
      · rcases List.mem_cons.mp hw with rfl | hw
        · exact ok _ g2
        · exact g4 w hw
    have hpost : ∀ t : State, s.vm.Alike t.vm → H.size ≤ t.heap.size → (∀ q : Nat, q < H.size → t.heap[q]? = H[q]?) → CTXx D ws' (va_A ws s.heap.size) out (exn k) s t := by
      intro t _ hz hq
      refine ⟨⟨k, ho, rfl⟩, hP.kept (fun j q hj => hq _ (vx_lt hP hj)), hD, Nat.le_trans hS.1 hz, fun q h1 h2 => ?_⟩
      rw [hq q (Nat.lt_of_lt_of_le h1 hS.1)]
      exact hS.2.1 q h1 h2
    have hnf : ∀ n ∈ exnm, Bundle.fit n = true := by decide +kernel
    subst hoe
    rcases d with ⟨d4, d6, d9⟩ | ⟨d4, d6, d9⟩
    · exact vx_throwS (names := exnm) (text := text) hx hb hlt hown hfit hnf (htg _ g1) (htg _ g2) hsa (fun w hw => (g3 w hw).elim (fun h => htg _ h) (fun h => va_Nw.use (XWs_on w h) (hE.2.2.2 w h))) hgood hE.2.1 hE.2.2.1 hS (hsz.trans hml.symm) d0 d3 d4 d6 d9 (fun x hx => (htab x hx).elim)
        (show 2 + 3 < rm.frames by omega) (show 0 + (13 * (2 + 1) + 43) ≤ rm.locals by omega) (show k1 + 1 ≤ rm.cells by omega) (show k2 + 6 ≤ rm.slots by omega) hlk hpost hS.2.2 (by omega) (by omega)
    · exact vx_throwSW (names := exnm) (text := text) hx hb hlt hown hfit hnf (htg _ g1) (htg _ g2) hsa (fun w hw => (g3 w hw).elim (fun h => htg _ h) (fun h => va_Nw.use (XWs_on w h) (hE.2.2.2 w h))) hgood hE.2.1 hE.2.2.1 hS (hsz.trans hml.symm) d0 d3 d4 d6 d9 (fun x hx => (htab x hx).elim)
        (show 2 + 3 < rm.frames by omega) (show 0 + (13 * (2 + 1) + 43) ≤ rm.locals by omega) (show k1 + 1 ≤ rm.cells by omega) (show k2 + 6 ≤ rm.slots by omega) hlk hpost hS.2.2 (by omega) (by omega)
  · intro H locs k1 k2 pc ls rest k q ce hP hD hS h1 h2 ho hc1 hc2 hc3
    exact vx_out (fun x hx => (htab x hx).elim) hlk hc1 hc2 hc3 (fun t ht _ => ⟨⟨k, ho, rfl⟩, by rw [ht]; exact hP, hD, hS.F ht⟩) hS.2.2 h1 h2
/-- behind a call that returned, of a callee that may throw -/
theorem cx_use {a : Array Value} {wc wc' ws : va_W} {out : Sum Nat (Option Value)} {mc ms : Nat} {k1 k2 : Nat} (hk1 : cells + mc = k1) (hk2 : slots + ms = k2)
    (hr : vx_Run p l e R s m args below meth cd H locs cells slots mc ms (F0 m pc ls st0) rest (CTXq D wc' (va_A wc H.size) out a) (CTXx D wc' (va_A wc H.size) out) (va_A wc H.size))
    (hP : va_P D vwCl ws H) (hD : va_D A0 ws) (hS : va_S A0 H0 H locs) (hA : ∀ q, H0.size ≤ q → A0 q) (isC isR : List Nat) (hC : isC.map (fun i => ws[i]?) = wc.map some) (hR : isR.map (fun i => ws[i]?) = (isR.filterMap (fun i => ws[i]?)).map some) (hn : va_nd isR = true) (hdis : ∀ i ∈ isR, i ∉ isC)
    (kk : ∀ (H1 : Heap) (locs1 : List Loc) (ret : Option Value), out = .inr ret → va_P D vwCl (isR.filterMap (fun i => ws[i]?) ++ wc') H1 → va_D A0 (isR.filterMap (fun i => ws[i]?) ++ wc') → va_S A0 H0 H1 locs1 → W p l e R s m args below meth cd H1 locs1 k1 k2 Q (F0 m (pc + 3) ls (ret.toList ++ rest)))
    (kx : ∀ (H1 : Heap) (locs1 : List Loc) (k : Nat) (q : Nat) (ce : Cell), out = .inl k → va_P D vwCl (isR.filterMap (fun i => ws[i]?) ++ wc') H1 → va_D A0 (isR.filterMap (fun i => ws[i]?) ++ wc') → va_S A0 H0 H1 locs1 → H1[q]? = some ce → ce.vm = .none → s.vm.findClass (exn k) = some ce.cls → vx_W p l e R s m args below meth cd H1 locs1 k1 k2 Q (F0 m pc ls rest) q) :
    W p l e R s m args below meth cd H locs cells slots Q (F0 m pc ls st0) := by
  subst hk1 hk2
  have hF := va_free (wc := wc) hD hS hA isC hC
  intro T hT X
  rcases hr T hT X with ⟨v, st₀, t, T', L, h0, X', hL, e1, e2, ⟨⟨ret, ho, hv⟩, hP1, hD1, hz, hk⟩, st⟩ | ⟨q, st₀, t, T', L, E, ce, h0, X', hL, e1, e2, ⟨⟨k, ho, hE⟩, hP1, hD1, hz, hk⟩, hce, hcv, hcl, st⟩
  · cases hv
    rw [h0] at hz hk
    rw [← e1] at hP1
    have hj := va_join (wr := isR.filterMap (fun i => ws[i]?)) (w1 := wc') hP hD isC isR hC hR hn hdis (fun q h1 h2 => by rw [e1]; exact hk q h1 h2) hF hP1 hD1
    obtain ⟨t2, a1, b1⟩ := kk T'.heap (locs ++ L) _ ho hj.1 hj.2
      ⟨Nat.le_trans hS.1 (by rw [e1]; exact hz), fun q h1 h2 => by rw [e1, hk q (Nat.lt_of_lt_of_le h1 hS.1) (fun z => h2 (hF q z))]; exact hS.2.1 q h1 h2, fun q hq => by
        rcases List.mem_append.mp hq with h | h
        · exact hS.2.2 q h
        · exact hF _ (hL q h)⟩ T' rfl X'
    exact ⟨t2, st t2 a1, b1⟩
  · rw [h0] at hz hk
    rw [← e1] at hP1
    have hj := va_join (wr := isR.filterMap (fun i => ws[i]?)) (w1 := wc') hP hD isC isR hC hR hn hdis (fun q h1 h2 => by rw [e1]; exact hk q h1 h2) hF hP1 hD1
    obtain ⟨t2, a1, b1⟩ := kx T'.heap (locs ++ L) k q ce ho hj.1 hj.2
      ⟨Nat.le_trans hS.1 (by rw [e1]; exact hz), fun q h1 h2 => by rw [e1, hk q (Nat.lt_of_lt_of_le h1 hS.1) (fun z => h2 (hF q z))]; exact hS.2.1 q h1 h2, fun q hq => by
        rcases List.mem_append.mp hq with h | h
        · exact hS.2.2 q h
        · exact hF _ (hL q h)⟩ (by rw [e1]; exact hce) hcv (by rw [← hE]; exact hcl) T' rfl X'
    exact ⟨t2, st.trans a1, b1⟩
/-- a virtual call of a method that may throw -/
theorem cXV {y : MethodName} {c cc : ByteArray} {n nL k index ci q0 : Nat} {r : Option FieldType} {rm : Room} {av rest : List Value} {b : Nat} {fs : List Value} {wc wc' ws : va_W} {out : Sum Nat (Option Value)} {own C : String} {qc : vw_C}
    (hx : p.tables.exec = Jvm.exec) (hb : cd.code = cc) (hml : cd.maxLocals = nL) (hown : s.vm.findClass own = some m.cls) (htg : ∀ w ∈ GW, w.before args s = true) (hN : NW s) (hK : va_K D vwCl tys s) (hE : EX A0 s H0)
    (hM : CTX l D tys y c n r rm (.ref b :: av) wc wc' out)
    (hG : GoodIn GW (wsV own index C y (wsU y c n r)))
    (hd : y.cls = C ∧ y.cls ≠ "java/lang/invoke/MethodHandle" ∧ y.cls ≠ "java/lang/invoke/VarHandle" ∧ (parseMethodDescriptor y.desc).map (fun d => d.parameters.length) = some k) (hlen : av.length = k)
    (hR : (rm.frames + 1 ≤ R.frames ∧ 8 + (n + 11) + rm.locals ≤ R.locals) ∧ cells + rm.cells ≤ R.cells ∧ slots + rm.slots ≤ R.slots)
    (hP : va_P D vwCl ws H) (hD : va_D A0 ws) (hS : va_S A0 H0 H locs) (hA : ∀ q, H0.size ≤ q → A0 q)
    (hqc : vwCl[ci]? = some qc ∧ qc.1 = C) (hq : wc[q0]? = some (b, .inr (ci, fs)))
    (isC isR : List Nat) (hC : isC.map (fun i => ws[i]?) = wc.map some) (hCs : isC.filterMap (fun i => ws[i]?) = wc) (hRr : isR.map (fun i => ws[i]?) = (isR.filterMap (fun i => ws[i]?)).map some) (hn : va_nd isC = true ∧ va_nd isR = true) (hdis : ∀ i ∈ isR, i ∉ isC)
    (hsz : ls.size = nL) (hst : st0 = av.reverse ++ .ref b :: rest) (hW : (rest.map fun v => v.category).sum ≤ 8) {k1 k2 : Nat} (hk1 : cells + rm.cells = k1) (hk2 : slots + rm.slots = k2) (hdg : decode cc pc = .ok (.invokevirtual index, 3))
    (kk : ∀ (H1 : Heap) (locs1 : List Loc) (ret : Option Value), out = .inr ret → va_P D vwCl (isR.filterMap (fun i => ws[i]?) ++ wc') H1 → va_D A0 (isR.filterMap (fun i => ws[i]?) ++ wc') → va_S A0 H0 H1 locs1 → W p l e R s m args below meth cd H1 locs1 k1 k2 Q (F0 m (pc + 3) ls (ret.toList ++ rest)))
    (kx : ∀ (H1 : Heap) (locs1 : List Loc) (k : Nat) (q : Nat) (ce : Cell), out = .inl k → va_P D vwCl (isR.filterMap (fun i => ws[i]?) ++ wc') H1 → va_D A0 (isR.filterMap (fun i => ws[i]?) ++ wc') → va_S A0 H0 H1 locs1 → H1[q]? = some ce → ce.vm = .none → s.vm.findClass (exn k) = some ce.cls → vx_W p l e R s m args below meth cd H1 locs1 k1 k2 Q (F0 m pc ls rest) q) :
    W p l e R s m args below meth cd H locs cells slots Q (F0 m pc ls st0) := by
  have hPc := hP.sub isC hCs
  have hDc := hD.sub isC hn.1 hC
  exact cx_use hk1 hk2 (vx_runV (g := F0 m pc ls st0) (H := H) (locs := locs) (cells := cells) (slots := slots) (Ts := GW) (own := own) (C := C) (As := av) (rest := rest) (b := b) ⟨hx, hb, hml, hown, htg⟩ (hM H.size)
    (cwV k htg hG rfl rfl rfl hd hR.1) ⟨CTXp.blind, by have h := va_recv hK hPc hqc.1 hq; rw [hqc.2] at h; exact h, fun U hU hW => ⟨rfl, by rw [hU], by rw [hU]; exact hPc, va_K.moved hW.alike hK, hDc.weaken (fun _ _ _ _ => trivial), hN.warm hW, by rw [hU]; exact hE.warm hW hS (va_free (wc := wc) hD hS hA isC hC)⟩⟩
    rfl hlen hsz hst (lv_room hW) hdg hR.2) hP hD hS hA isC isR hC hRr hn.2 hdis kk kx
/-- a static call of a method that may throw -/
theorem cXS {y : MethodName} {c cc : ByteArray} {n nL k index : Nat} {r : Option FieldType} {rm : Room} {av rest : List Value} {wc wc' ws : va_W} {out : Sum Nat (Option Value)} {own : String}
    (hx : p.tables.exec = Jvm.exec) (hb : cd.code = cc) (hml : cd.maxLocals = nL) (hown : s.vm.findClass own = some m.cls) (htg : ∀ w ∈ GW, w.before args s = true) (hN : NW s) (hK : va_K D vwCl tys s) (hE : EX A0 s H0)
    (hM : CTX l D tys y c n r rm av wc wc' out)
    (hG : (Cond.methodLink own index y ∈ GW) ∧ Cond.static y ∈ GW ∧ Cond.initialized y.cls ∈ GW ∧ GoodIn GW (wsU y c n r))
    (hd : y.cls ≠ "java/lang/invoke/MethodHandle" ∧ y.cls ≠ "java/lang/invoke/VarHandle" ∧ (parseMethodDescriptor y.desc).map (fun d => d.parameters.length) = some k) (hlen : av.length = k)
    (hR : (rm.frames + 1 ≤ R.frames ∧ 8 + (n + 11) + rm.locals ≤ R.locals) ∧ cells + rm.cells ≤ R.cells ∧ slots + rm.slots ≤ R.slots)
    (hP : va_P D vwCl ws H) (hD : va_D A0 ws) (hS : va_S A0 H0 H locs) (hA : ∀ q, H0.size ≤ q → A0 q)
    (isC isR : List Nat) (hC : isC.map (fun i => ws[i]?) = wc.map some) (hCs : isC.filterMap (fun i => ws[i]?) = wc) (hRr : isR.map (fun i => ws[i]?) = (isR.filterMap (fun i => ws[i]?)).map some) (hn : va_nd isC = true ∧ va_nd isR = true) (hdis : ∀ i ∈ isR, i ∉ isC)
    (hsz : ls.size = nL) (hst : st0 = av.reverse ++ rest) (hW : (rest.map fun v => v.category).sum ≤ 8) {k1 k2 : Nat} (hk1 : cells + rm.cells = k1) (hk2 : slots + rm.slots = k2) (hdg : decode cc pc = .ok (.invokestatic index, 3))
    (kk : ∀ (H1 : Heap) (locs1 : List Loc) (ret : Option Value), out = .inr ret → va_P D vwCl (isR.filterMap (fun i => ws[i]?) ++ wc') H1 → va_D A0 (isR.filterMap (fun i => ws[i]?) ++ wc') → va_S A0 H0 H1 locs1 → W p l e R s m args below meth cd H1 locs1 k1 k2 Q (F0 m (pc + 3) ls (ret.toList ++ rest)))
    (kx : ∀ (H1 : Heap) (locs1 : List Loc) (k : Nat) (q : Nat) (ce : Cell), out = .inl k → va_P D vwCl (isR.filterMap (fun i => ws[i]?) ++ wc') H1 → va_D A0 (isR.filterMap (fun i => ws[i]?) ++ wc') → va_S A0 H0 H1 locs1 → H1[q]? = some ce → ce.vm = .none → s.vm.findClass (exn k) = some ce.cls → vx_W p l e R s m args below meth cd H1 locs1 k1 k2 Q (F0 m pc ls rest) q) :
    W p l e R s m args below meth cd H locs cells slots Q (F0 m pc ls st0) := by
  have hPc := hP.sub isC hCs
  have hDc := hD.sub isC hn.1 hC
  exact cx_use hk1 hk2 (vx_runS (g := F0 m pc ls st0) (H := H) (locs := locs) (cells := cells) (slots := slots) (Ts := GW) (own := own) (As := av) (rest := rest) ⟨hx, hb, hml, hown, htg⟩ (hM H.size)
    ⟨callB_of k htg hG.2.2.2 rfl rfl rfl (htg _ hG.2.2.1) (htg _ hG.1) hd hR.1, htg _ hG.2.1⟩ ⟨CTXp.blind, fun U hU hW => ⟨rfl, by rw [hU], by rw [hU]; exact hPc, va_K.moved hW.alike hK, hDc.weaken (fun _ _ _ _ => trivial), hN.warm hW, by rw [hU]; exact hE.warm hW hS (va_free (wc := wc) hD hS hA isC hC)⟩⟩
    rfl hlen hsz hst (lv_room hW) hdg hR.2) hP hD hS hA isC isR hC hRr hn.2 hdis kk kx
end EXR
