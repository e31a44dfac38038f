/-! words -/
def GW : List Cond := lw_tbl.filter goodWord
theorem gw_of {w : Cond} (k : Nat) (h : lw_tbl[k]? = some w) (hg : goodWord w = true) : w ∈ GW := List.mem_filter.mpr ⟨List.mem_of_getElem? h, hg⟩
theorem gw_good {w : Cond} (h : w ∈ GW) : (w.onTables && w.keeps) = true ∨ ∃ ty, w = .arrayClass ty := good_of_word (List.mem_filter.mp h).2
abbrev wsU (y : MethodName) (c : ByteArray) (n : Nat) (r : Option FieldType) : List Cond := Cond.code y c n r :: GW
def NWs : List Cond := [.fieldLinkNest "SquaredPaper$Change" 41 "SquaredPaper$Figure" "rings" "I" "SquaredPaper", .fieldLinkNest "SquaredPaper$Measure" 43 "SquaredPaper$Figure" "rings" "I" "SquaredPaper", .fieldLinkNest "SquaredPaper" 89 "SquaredPaper$Figure" "rings" "I" "SquaredPaper", .fieldLinkNest "SquaredPaper$Rules" 57 "SquaredPaper$Figure" "rings" "I" "SquaredPaper", .fieldLinkNest "SquaredPaper$Sight" 15 "SquaredPaper$Figure" "corners" "I" "SquaredPaper", .fieldLinkNest "SquaredPaper$Rules" 27 "SquaredPaper$Figure" "corners" "I" "SquaredPaper", .fieldLinkNest "SquaredPaper" 92 "SquaredPaper$Figure" "corners" "I" "SquaredPaper", .methodLinkNest "SquaredPaper$Rules" 37 yX8_inRange "SquaredPaper", .methodLinkNest "SquaredPaper$Change" 45 yX8_inRange "SquaredPaper"]
def NW (U : State) : Prop := ∀ w ∈ NWs, va_Nw w U
theorem NW.warm {s U : State} (hW : s.WarmedH U.vm) (h : NW s) : NW U := by
  intro w hw
  have h1 := h w hw
  simp only [NWs, List.mem_cons, List.not_mem_nil, or_false] at hw
  rcases hw with rfl | rfl | rfl | rfl | rfl | rfl | rfl | rfl | rfl
  all_goals first | exact va_Nw.warmF hW h1 | exact va_Nw.warmM hW h1
theorem NW.same {u U : State} (h : u.vm = U.vm) (hN : NW u) : NW U := by
  intro w hw
  have h1 := hN w hw
  simp only [NWs, List.mem_cons, List.not_mem_nil, or_false] at hw
  rcases hw with rfl | rfl | rfl | rfl | rfl | rfl | rfl | rfl | rfl
  all_goals exact va_Nw.same rfl h h1
/-! a contract: the answer and the world behind it are given values -/
def CTp (D : va_G) (tys : List (ClassId × FieldType)) (args : List Value) (ws : va_W) (sz : Nat) : Array Value → State → Prop := va_Pc args (fun U => U.heap.size = sz ∧ va_P D vwCl ws U.heap ∧ va_K D vwCl tys U ∧ va_D (fun _ => True) ws ∧ NW U)
def CTq (D : va_G) (ws' : va_W) (A : Nat → Prop) (ret : Option Value) : Array Value → State → Outcome → State → Prop := fun _ st oc t => oc = .returned ret ∧ va_P D vwCl ws' t.heap ∧ va_D A ws' ∧ va_F A st t
def CT (l : Launch) (D : va_G) (tys : List (ClassId × FieldType)) (y : MethodName) (c : ByteArray) (n : Nat) (r : Option FieldType) (rm : Room) (args : List Value) (ws ws' : va_W) (ret : Option Value) : Prop :=
  ∀ sz : Nat, Met l y (wsU y c n r) rm (CTp D tys args ws sz) (CTq D ws' (va_A ws sz) ret) rm.cells rm.slots (va_A ws sz)
theorem CTp.blind {D : va_G} {tys : List (ClassId × FieldType)} {args : List Value} {ws : va_W} {sz : Nat} : FrameBlind (CTp D tys args ws sz) := by
  intro a U g mk q
  obtain ⟨q0, q1, qP, qK, qD, qN⟩ := q
  exact ⟨q0, q1, qP, va_K.moved (u := U) (U := U.calling g mk a) (Vm.Alike.refl U.vm) qK, qD, NW.same (u := U) (U := U.calling g mk a) rfl qN⟩
theorem CT.mk {l : Launch} {D : va_G} {tys : List (ClassId × FieldType)} {y : MethodName} {c : ByteArray} {n : Nat} {r : Option FieldType} {rm : Room} {av : List Value} {ws ws' : va_W} {ret : Option Value}
    (hy : plainName y.cls = true) (hfit : (lg_sl av).length ≤ n)
    (body : ∀ (p : Program) (e : Env) (s : State) (m : MethodId) (args : Array Value) (below : List Frame) (meth : Method) (cd : Code) (A : Nat → Prop), p.tables.exec = Jvm.exec → cd.code = c → meth.sig.returnType = r → cd.maxLocals = n → s.vm.findClass y.cls = some m.cls → meth.locks = false → (∀ w ∈ GW, w.before args s = true) → (∀ w ∈ wsU y c n r, w.before args s = true) → NW s → va_K D vwCl tys s → (∀ q : Nat, s.heap.size ≤ q → A q) → va_P D vwCl ws s.heap → va_D A ws → va_S A s.heap s.heap [] →
      (∀ ls : Array Slot, lv_has ls n (lv_args 0 av) → W p l e rm s m args below meth cd s.heap [] 0 0 (MQ below (CTq D ws' A ret) args s rm.cells rm.slots A) (F0 m 0 ls []))) :
    CT l D tys y c n r rm av ws ws' ret := by
  intro sz
  refine Met.ofW (cc := c) (maxL := n) (ret := r) hy rfl ?_
  intro p e s m args below meth cd s₁ B hml hv
  obtain ⟨rfl, hsz, hP, hK, hD0, hN⟩ := hv
  have hts := atoms_spec (ws := wsU y c n r) B.pre
  subst hsz
  have hl := lv_entry av (n := n) hfit
  rw [lg_entry_eq]
  exact body p e s m _ below meth cd _ B.exec B.bytes B.returns hml (findClass_of_methodNamed B.named) B.notSynchronized (fun w hw => hts w (List.mem_cons_of_mem _ hw)) hts hN hK (fun q h => Or.inr h) hP (hD0.self (sz := s.heap.size)) va_S.rf _ hl
theorem CT.mk_i {l : Launch} {D : va_G} {tys : List (ClassId × FieldType)} {y : MethodName} {c : ByteArray} {n : Nat} {rm : Room} {av : List Value} {ws ws' : va_W} {ret : Option Value} {own : String}
    (hy : plainName y.cls = true ∧ y.cls = own) (hfit : (lg_sl av).length ≤ n)
    (body : ∀ (p : Program) (e : Env) (s : State) (m : MethodId) (args : Array Value) (below : List Frame) (meth : Method) (cd : Code) (A : Nat → Prop) (Q : State → Prop), p.tables.exec = Jvm.exec → cd.code = c → cd.maxLocals = n → s.vm.findClass own = some m.cls → (∀ w ∈ GW, w.before args s = true) → NW s → va_K D vwCl tys s → (∀ q : Nat, s.heap.size ≤ q → A q) → va_P D vwCl ws s.heap → va_D A ws → va_S A s.heap s.heap [] →
      (∀ (H : Heap) (locs : List Loc) (pc : Nat) (ls : Array Slot) (v : Int32), va_P D vwCl ws' H → va_D A ws' → va_S A s.heap H locs → ret = some (.int v) → decode c pc = .ok (.ireturn, 1) → W p l e rm s m args below meth cd H locs rm.cells rm.slots Q (F0 m pc ls [.int v])) →
      (∀ ls : Array Slot, lv_has ls n (lv_args 0 av) → W p l e rm s m args below meth cd s.heap [] 0 0 Q (F0 m 0 ls []))) :
    CT l D tys y c n (some .int) rm av ws ws' ret :=
  CT.mk hy.1 hfit (fun p e s m args below meth cd A hx hb hr hml hown hlk htg hts hN hK hA hP hD hS ls hl => body p e s m args below meth cd A _ hx hb hml (by rw [← hy.2]; exact hown) htg hN hK hA hP hD hS
    (fun H locs pc ls v hP hD hS hv hdg => W.iret (v := v) hx hb hr (fun t ht hW => ⟨by rw [hv], by rw [ht]; exact hP, hD, hS.F ht⟩) hS.2.2 hdg hlk) ls hl)
theorem CT.mk_z {l : Launch} {D : va_G} {tys : List (ClassId × FieldType)} {y : MethodName} {c : ByteArray} {n : Nat} {rm : Room} {av : List Value} {ws ws' : va_W} {ret : Option Value} {own : String}
    (hy : plainName y.cls = true ∧ y.cls = own) (hfit : (lg_sl av).length ≤ n)
    (body : ∀ (p : Program) (e : Env) (s : State) (m : MethodId) (args : Array Value) (below : List Frame) (meth : Method) (cd : Code) (A : Nat → Prop) (Q : State → Prop), p.tables.exec = Jvm.exec → cd.code = c → cd.maxLocals = n → s.vm.findClass own = some m.cls → (∀ w ∈ GW, w.before args s = true) → NW s → va_K D vwCl tys s → (∀ q : Nat, s.heap.size ≤ q → A q) → va_P D vwCl ws s.heap → va_D A ws → va_S A s.heap s.heap [] →
      (∀ (H : Heap) (locs : List Loc) (pc : Nat) (ls : Array Slot) (v : Int32), va_P D vwCl ws' H → va_D A ws' → va_S A s.heap H locs → ret = some (.int v) → (v = 0 ∨ v = 1) → decode c pc = .ok (.ireturn, 1) → W p l e rm s m args below meth cd H locs rm.cells rm.slots Q (F0 m pc ls [.int v])) →
      (∀ ls : Array Slot, lv_has ls n (lv_args 0 av) → W p l e rm s m args below meth cd s.heap [] 0 0 Q (F0 m 0 ls []))) :
    CT l D tys y c n (some .boolean) rm av ws ws' ret :=
  CT.mk hy.1 hfit (fun p e s m args below meth cd A hx hb hr hml hown hlk htg hts hN hK hA hP hD hS ls hl => body p e s m args below meth cd A _ hx hb hml (by rw [← hy.2]; exact hown) htg hN hK hA hP hD hS
    (fun H locs pc ls v hP hD hS hv hz hdg => W.zret (v := v) hx hb hr (by rcases hz with rfl | rfl <;> rfl) (fun t ht hW => ⟨by rw [hv], by rw [ht]; exact hP, hD, hS.F ht⟩) hS.2.2 hdg hlk) ls hl)
theorem CT.mk_v {l : Launch} {D : va_G} {tys : List (ClassId × FieldType)} {y : MethodName} {c : ByteArray} {n : Nat} {rm : Room} {av : List Value} {ws ws' : va_W} {own : String}
    (hy : plainName y.cls = true ∧ y.cls = own) (hfit : (lg_sl av).length ≤ n)
    (body : ∀ (p : Program) (e : Env) (s : State) (m : MethodId) (args : Array Value) (below : List Frame) (meth : Method) (cd : Code) (A : Nat → Prop) (Q : State → Prop), p.tables.exec = Jvm.exec → cd.code = c → cd.maxLocals = n → s.vm.findClass own = some m.cls → (∀ w ∈ GW, w.before args s = true) → NW s → va_K D vwCl tys s → (∀ q : Nat, s.heap.size ≤ q → A q) → va_P D vwCl ws s.heap → va_D A ws → va_S A s.heap s.heap [] →
      (∀ (H : Heap) (locs : List Loc) (pc : Nat) (ls : Array Slot), va_P D vwCl ws' H → va_D A ws' → va_S A s.heap H locs → decode c pc = .ok (.return_, 1) → W p l e rm s m args below meth cd H locs rm.cells rm.slots Q (F0 m pc ls [])) →
      (∀ ls : Array Slot, lv_has ls n (lv_args 0 av) → W p l e rm s m args below meth cd s.heap [] 0 0 Q (F0 m 0 ls []))) :
    CT l D tys y c n none rm av ws ws' none :=
  CT.mk hy.1 hfit (fun p e s m args below meth cd A hx hb hr hml hown hlk htg hts hN hK hA hP hD hS ls hl => body p e s m args below meth cd A _ hx hb hml (by rw [← hy.2]; exact hown) htg hN hK hA hP hD hS
    (fun H locs pc ls hP hD hS hdg => W.vret hx hb hr (fun t ht hW => ⟨rfl, by rw [ht]; exact hP, hD, hS.F ht⟩) hS.2.2 hdg hlk) ls hl)
section CALLS
variable {p : Program} {l : Launch} {e : Env} {R : Room} {s : State} {m : MethodId} {args : Array Value} {below : List Frame} {meth : Method} {cd : Code} {H : Heap} {locs : List Loc} {cells slots : Nat} {Q : State → Prop}
variable {pc : Nat} {ls : Array Slot} {rest st0 : List Value} {A0 : Nat → Prop} {H0 : Heap} {D : va_G} {tys : List (ClassId × FieldType)}
/-- behind a call -/
theorem cc_use {a : Array Value} {wc wc' ws : va_W} {ret : Option Value} {mc ms : Nat} {st1 : List Value} {k1 k2 : Nat} (hs1 : ret.toList ++ rest = st1) (hk1 : cells + mc = k1) (hk2 : slots + ms = k2)
    (hr : va_Run p l e R s m args below meth cd H locs cells slots mc ms (F0 m pc ls st0) rest (CTq D wc' (va_A wc H.size) ret a) (va_A wc H.size))
    (hP : va_P D vwCl ws H) (hD : va_D A0 ws) (hS : va_S A0 H0 H locs) (hA : ∀ q, H0.size ≤ q → A0 q) (isC isR : List Nat) (hC : isC.map (fun i => ws[i]?) = wc.map some) (hR : isR.map (fun i => ws[i]?) = (isR.filterMap (fun i => ws[i]?)).map some) (hn : va_nd isR = true) (hdis : ∀ i ∈ isR, i ∉ isC)
    (kk : ∀ (H1 : Heap) (locs1 : List Loc), va_P D vwCl (isR.filterMap (fun i => ws[i]?) ++ wc') H1 → va_D A0 (isR.filterMap (fun i => ws[i]?) ++ wc') → va_S A0 H0 H1 locs1 → W p l e R s m args below meth cd H1 locs1 k1 k2 Q (F0 m (pc + 3) ls st1)) :
    W p l e R s m args below meth cd H locs cells slots Q (F0 m pc ls st0) := by
  subst hs1 hk1 hk2
  have hF := va_free (wc := wc) hD hS hA isC hC
  intro T hT X
  obtain ⟨v, st₀, t, T', L, h0, X', hL, e1, e2, ⟨hv, hP1, hD1, hz, hk⟩, st⟩ := hr T hT X
  cases hv
  rw [h0] at hz hk
  rw [← e1] at hP1
  have hj := va_join (wr := isR.filterMap (fun i => ws[i]?)) (w1 := wc') hP hD isC isR hC hR hn hdis (fun q h1 h2 => by rw [e1]; exact hk q h1 h2) hF hP1 hD1
  obtain ⟨t2, a1, b1⟩ := kk T'.heap (locs ++ L) hj.1 hj.2
    ⟨Nat.le_trans hS.1 (by rw [e1]; exact hz), fun q h1 h2 => by rw [e1, hk q (Nat.lt_of_lt_of_le h1 hS.1) (fun z => h2 (hF q z))]; exact hS.2.1 q h1 h2, fun q hq => by
      rcases List.mem_append.mp hq with h | h
      · exact hS.2.2 q h
      · exact hF _ (hL q h)⟩ T' rfl X'
  exact ⟨t2, st t2 a1, b1⟩
theorem g_ws {y : MethodName} {c : ByteArray} {n : Nat} {r : Option FieldType} {Ts : List Cond} (hT : ∀ w ∈ GW, w ∈ Ts) (h : Cond.code y c n r ∈ GW) : GoodIn Ts (wsU y c n r) := by
  intro w hw
  rcases List.mem_cons.mp hw with rfl | hw
  · exact ⟨hT _ h, gw_good h⟩
  · exact ⟨hT _ hw, gw_good hw⟩
theorem g_V {y : MethodName} {c : ByteArray} {n : Nat} {r : Option FieldType} {own C : String} {idx : Nat} (h1 : Cond.methodLink own idx y ∈ GW) (h2 : Cond.instanceMethod y ∈ GW) (h3 : Cond.selects C y y ∈ GW) (h4 : Cond.initialized C ∈ GW) (h : Cond.code y c n r ∈ GW) : GoodIn GW (wsV own idx C y (wsU y c n r)) := by
  intro w hw
  rcases List.mem_append.mp hw with hw | hw
  · simp only [List.mem_cons, List.not_mem_nil, or_false] at hw
    rcases hw with rfl | rfl | rfl | rfl
    · exact ⟨h1, gw_good h1⟩
    · exact ⟨h2, gw_good h2⟩
    · exact ⟨h3, gw_good h3⟩
    · exact ⟨h4, gw_good h4⟩
  · exact g_ws (fun _ h => h) h w hw
theorem g_S {y : MethodName} {c : ByteArray} {n : Nat} {r : Option FieldType} {own : String} {idx : Nat} (h1 : Cond.methodLink own idx y ∈ GW) (h2 : Cond.static y ∈ GW) (h4 : Cond.initialized y.cls ∈ GW) (h : Cond.code y c n r ∈ GW) :
    (Cond.methodLink own idx y ∈ GW) ∧ Cond.static y ∈ GW ∧ Cond.initialized y.cls ∈ GW ∧ GoodIn GW (wsU y c n r) := ⟨h1, h2, h4, g_ws (fun _ h => h) h⟩
/-- a virtual call of a method with a contract -/
theorem cV {y : MethodName} {c cc : ByteArray} {n nL k index ci q0 : Nat} {r : Option FieldType} {rm : Room} {av rest : List Value} {b : Nat} {fs : List Value} {wc wc' ws : va_W} {ret : Option Value} {own C : String} {qc : vw_C}
    (hx : p.tables.exec = Jvm.exec) (hb : cd.code = cc) (hml : cd.maxLocals = nL) (hown : s.vm.findClass own = some m.cls) (htg : ∀ w ∈ GW, w.before args s = true) (hN : NW s) (hK : va_K D vwCl tys s)
    (hM : CT l D tys y c n r rm (.ref b :: av) wc wc' ret)
    (hG : GoodIn GW (wsV own index C y (wsU y c n r)))
    (hd : y.cls = C ∧ y.cls ≠ "java/lang/invoke/MethodHandle" ∧ y.cls ≠ "java/lang/invoke/VarHandle" ∧ (parseMethodDescriptor y.desc).map (fun d => d.parameters.length) = some k) (hlen : av.length = k)
    (hR : (rm.frames + 1 ≤ R.frames ∧ 8 + (n + 11) + rm.locals ≤ R.locals) ∧ cells + rm.cells ≤ R.cells ∧ slots + rm.slots ≤ R.slots)
    (hP : va_P D vwCl ws H) (hD : va_D A0 ws) (hS : va_S A0 H0 H locs) (hA : ∀ q, H0.size ≤ q → A0 q)
    (hqc : vwCl[ci]? = some qc ∧ qc.1 = C) (hq : wc[q0]? = some (b, .inr (ci, fs)))
    (isC isR : List Nat) (hC : isC.map (fun i => ws[i]?) = wc.map some) (hCs : isC.filterMap (fun i => ws[i]?) = wc) (hRr : isR.map (fun i => ws[i]?) = (isR.filterMap (fun i => ws[i]?)).map some) (hn : va_nd isC = true ∧ va_nd isR = true) (hdis : ∀ i ∈ isR, i ∉ isC)
    (hsz : ls.size = nL) (hst : st0 = av.reverse ++ .ref b :: rest) (hW : (rest.map fun v => v.category).sum ≤ 8) {st1 : List Value} {k1 k2 : Nat} (hs1 : ret.toList ++ rest = st1) (hk1 : cells + rm.cells = k1) (hk2 : slots + rm.slots = k2) (hdg : decode cc pc = .ok (.invokevirtual index, 3))
    (kk : ∀ (H1 : Heap) (locs1 : List Loc), va_P D vwCl (isR.filterMap (fun i => ws[i]?) ++ wc') H1 → va_D A0 (isR.filterMap (fun i => ws[i]?) ++ wc') → va_S A0 H0 H1 locs1 → W p l e R s m args below meth cd H1 locs1 k1 k2 Q (F0 m (pc + 3) ls st1)) :
    W p l e R s m args below meth cd H locs cells slots Q (F0 m pc ls st0) := by
  have hPc := hP.sub isC hCs
  have hDc := hD.sub isC hn.1 hC
  exact cc_use hs1 hk1 hk2 (va_runV (g := F0 m pc ls st0) (H := H) (locs := locs) (cells := cells) (slots := slots) (Ts := GW) (own := own) (C := C) (As := av) (rest := rest) (b := b) ⟨hx, hb, hml, hown, htg⟩ (hM H.size)
    (cwV k htg hG rfl rfl rfl hd hR.1) ⟨CTp.blind, by have h := va_recv hK hPc hqc.1 hq; rw [hqc.2] at h; exact h, fun U hU hW => ⟨rfl, by rw [hU], by rw [hU]; exact hPc, va_K.moved hW.alike hK, hDc.weaken (fun _ _ _ _ => trivial), hN.warm hW⟩⟩
    rfl hlen hsz hst (lv_room hW) hdg hR.2) hP hD hS hA isC isR hC hRr hn.2 hdis kk
/-- a static call -/
theorem cS {y : MethodName} {c cc : ByteArray} {n nL k index : Nat} {r : Option FieldType} {rm : Room} {av rest : List Value} {wc wc' ws : va_W} {ret : Option Value} {own : String}
    (hx : p.tables.exec = Jvm.exec) (hb : cd.code = cc) (hml : cd.maxLocals = nL) (hown : s.vm.findClass own = some m.cls) (htg : ∀ w ∈ GW, w.before args s = true) (hN : NW s) (hK : va_K D vwCl tys s)
    (hM : CT l D tys y c n r rm av wc wc' ret)
    (hG : (Cond.methodLink own index y ∈ GW) ∧ Cond.static y ∈ GW ∧ Cond.initialized y.cls ∈ GW ∧ GoodIn GW (wsU y c n r))
    (hd : y.cls ≠ "java/lang/invoke/MethodHandle" ∧ y.cls ≠ "java/lang/invoke/VarHandle" ∧ (parseMethodDescriptor y.desc).map (fun d => d.parameters.length) = some k) (hlen : av.length = k)
    (hR : (rm.frames + 1 ≤ R.frames ∧ 8 + (n + 11) + rm.locals ≤ R.locals) ∧ cells + rm.cells ≤ R.cells ∧ slots + rm.slots ≤ R.slots)
    (hP : va_P D vwCl ws H) (hD : va_D A0 ws) (hS : va_S A0 H0 H locs) (hA : ∀ q, H0.size ≤ q → A0 q)
    (isC isR : List Nat) (hC : isC.map (fun i => ws[i]?) = wc.map some) (hCs : isC.filterMap (fun i => ws[i]?) = wc) (hRr : isR.map (fun i => ws[i]?) = (isR.filterMap (fun i => ws[i]?)).map some) (hn : va_nd isC = true ∧ va_nd isR = true) (hdis : ∀ i ∈ isR, i ∉ isC)
    (hsz : ls.size = nL) (hst : st0 = av.reverse ++ rest) (hW : (rest.map fun v => v.category).sum ≤ 8) {st1 : List Value} {k1 k2 : Nat} (hs1 : ret.toList ++ rest = st1) (hk1 : cells + rm.cells = k1) (hk2 : slots + rm.slots = k2) (hdg : decode cc pc = .ok (.invokestatic index, 3))
    (kk : ∀ (H1 : Heap) (locs1 : List Loc), va_P D vwCl (isR.filterMap (fun i => ws[i]?) ++ wc') H1 → va_D A0 (isR.filterMap (fun i => ws[i]?) ++ wc') → va_S A0 H0 H1 locs1 → W p l e R s m args below meth cd H1 locs1 k1 k2 Q (F0 m (pc + 3) ls st1)) :
    W p l e R s m args below meth cd H locs cells slots Q (F0 m pc ls st0) := by
  have hPc := hP.sub isC hCs
  have hDc := hD.sub isC hn.1 hC
  exact cc_use hs1 hk1 hk2 (va_runS (g := F0 m pc ls st0) (H := H) (locs := locs) (cells := cells) (slots := slots) (Ts := GW) (own := own) (As := av) (rest := rest) ⟨hx, hb, hml, hown, htg⟩ (hM H.size)
    ⟨callB_of k htg hG.2.2.2 rfl rfl rfl (htg _ hG.2.2.1) (htg _ hG.1) hd hR.1, htg _ hG.2.1⟩ ⟨CTp.blind, fun U hU hW => ⟨rfl, by rw [hU], by rw [hU]; exact hPc, va_K.moved hW.alike hK, hDc.weaken (fun _ _ _ _ => trivial), hN.warm hW⟩⟩
    rfl hlen hsz hst (lv_room hW) hdg hR.2) hP hD hS hA isC isR hC hRr hn.2 hdis kk
/-- a static call of a nest mate's private method -/
theorem cSN {y : MethodName} {c cc : ByteArray} {n nL k index : Nat} {r : Option FieldType} {rm : Room} {av rest : List Value} {wc wc' ws : va_W} {ret : Option Value} {own host : String}
    (hx : p.tables.exec = Jvm.exec) (hb : cd.code = cc) (hml : cd.maxLocals = nL) (hown : s.vm.findClass own = some m.cls) (htg : ∀ w ∈ GW, w.before args s = true) (hN : NW s) (hK : va_K D vwCl tys s)
    (hM : CT l D tys y c n r rm av wc wc' ret)
    (hnest : Cond.methodLinkNest own index y host ∈ NWs) (hG : Cond.static y ∈ GW ∧ Cond.initialized y.cls ∈ GW ∧ GoodIn GW (wsU y c n r))
    (hd : y.cls ≠ "java/lang/invoke/MethodHandle" ∧ y.cls ≠ "java/lang/invoke/VarHandle" ∧ (parseMethodDescriptor y.desc).map (fun d => d.parameters.length) = some k) (hlen : av.length = k)
    (hR : (rm.frames + 1 ≤ R.frames ∧ 8 + (n + 11) + rm.locals ≤ R.locals) ∧ cells + rm.cells ≤ R.cells ∧ slots + rm.slots ≤ R.slots)
    (hP : va_P D vwCl ws H) (hD : va_D A0 ws) (hS : va_S A0 H0 H locs) (hA : ∀ q, H0.size ≤ q → A0 q)
    (isC isR : List Nat) (hC : isC.map (fun i => ws[i]?) = wc.map some) (hCs : isC.filterMap (fun i => ws[i]?) = wc) (hRr : isR.map (fun i => ws[i]?) = (isR.filterMap (fun i => ws[i]?)).map some) (hn : va_nd isC = true ∧ va_nd isR = true) (hdis : ∀ i ∈ isR, i ∉ isC)
    (hsz : ls.size = nL) (hst : st0 = av.reverse ++ rest) (hW : (rest.map fun v => v.category).sum ≤ 8) {st1 : List Value} {k1 k2 : Nat} (hs1 : ret.toList ++ rest = st1) (hk1 : cells + rm.cells = k1) (hk2 : slots + rm.slots = k2) (hdg : decode cc pc = .ok (.invokestatic index, 3))
    (kk : ∀ (H1 : Heap) (locs1 : List Loc), va_P D vwCl (isR.filterMap (fun i => ws[i]?) ++ wc') H1 → va_D A0 (isR.filterMap (fun i => ws[i]?) ++ wc') → va_S A0 H0 H1 locs1 → W p l e R s m args below meth cd H1 locs1 k1 k2 Q (F0 m (pc + 3) ls st1)) :
    W p l e R s m args below meth cd H locs cells slots Q (F0 m pc ls st0) := by
  have hPc := hP.sub isC hCs
  have hDc := hD.sub isC hn.1 hC
  exact cc_use hs1 hk1 hk2 (va_runSN (g := F0 m pc ls st0) (H := H) (locs := locs) (cells := cells) (slots := slots) (Ts := GW) (own := own) (As := av) (rest := rest) (host := host) ⟨hx, hb, hml, hown, htg⟩ (hM H.size)
    ⟨va_cnB k htg hG.2.2 rfl rfl rfl (hN _ hnest) (htg _ hG.2.1) hd hR.1, htg _ hG.1, trivial⟩ ⟨CTp.blind, fun U hU hW => ⟨rfl, by rw [hU], by rw [hU]; exact hPc, va_K.moved hW.alike hK, hDc.weaken (fun _ _ _ _ => trivial), hN.warm hW⟩⟩
    rfl hlen hsz hst (lv_room hW) hdg hR.2) hP hD hS hA isC isR hC hRr hn.2 hdis kk
end CALLS
/-! the words of the functions that the methods are -/
def rd (n : Nat) (f : Nat → Int32) (i : Int32) : Option Int32 := if i < 0 ∨ n ≤ i.toNatClampNeg then none else some (f i.toNatClampNeg)
def wr (n : Nat) (f : Nat → Int32) (i x : Int32) : Option (Nat → Int32) := if i < 0 ∨ n ≤ i.toNatClampNeg then none else some (upd f i.toNatClampNeg x)
def dvI (x y : Int32) : Option Int32 := if y = 0 then none else some (x / y)
def rmI (x y : Int32) : Option Int32 := if y = 0 then none else some (x - x / y * y)
def dvL (x y : Int64) : Option Int64 := if y = 0 then none else some (x / y)
def rmL (x y : Int64) : Option Int64 := if y = 0 then none else some (x - x / y * y)
def bck (x : Int32) : Option Int32 := if x = 0 ∨ x = 1 then some x else none
def FU : Nat := 1000000
theorem bnd {α β : Type} {m : Option α} {k : α → Option β} {r : β} (h : m.bind k = some r) : ∃ v, m = some v ∧ k v = some r := Option.bind_eq_some_iff.mp h
theorem if_t {α : Type} {c : Prop} [Decidable c] {a b r : α} (h : (if c then a else b) = r) (hc : c) : a = r := by rw [if_pos hc] at h; exact h
theorem if_f {α : Type} {c : Prop} [Decidable c] {a b r : α} (h : (if c then a else b) = r) (hc : ¬ c) : b = r := by rw [if_neg hc] at h; exact h
theorem rd_in {n : Nat} {f : Nat → Int32} {i v : Int32} (h : rd n f i = some v) : vp_in i n ∧ f i.toNatClampNeg = v := by
  unfold rd at h
  by_cases hc : i < 0 ∨ n ≤ i.toNatClampNeg
  · rw [if_pos hc] at h; cases h
  · rw [if_neg hc] at h; exact ⟨hc, Option.some.inj h⟩
theorem wr_in {n : Nat} {f g : Nat → Int32} {i x : Int32} (h : wr n f i x = some g) : vp_in i n ∧ upd f i.toNatClampNeg x = g := by
  unfold wr at h
  by_cases hc : i < 0 ∨ n ≤ i.toNatClampNeg
  · rw [if_pos hc] at h; cases h
  · rw [if_neg hc] at h; exact ⟨hc, Option.some.inj h⟩
theorem dvI_in {x y v : Int32} (h : dvI x y = some v) : ¬ y = 0 ∧ x / y = v := by
  unfold dvI at h
  by_cases hc : y = 0
  · rw [if_pos hc] at h; cases h
  · rw [if_neg hc] at h; exact ⟨hc, Option.some.inj h⟩
theorem rmI_in {x y v : Int32} (h : rmI x y = some v) : ¬ y = 0 ∧ x - x / y * y = v := by
  unfold rmI at h
  by_cases hc : y = 0
  · rw [if_pos hc] at h; cases h
  · rw [if_neg hc] at h; exact ⟨hc, Option.some.inj h⟩
theorem dvL_in {x y v : Int64} (h : dvL x y = some v) : ¬ y = 0 ∧ x / y = v := by
  unfold dvL at h
  by_cases hc : y = 0
  · rw [if_pos hc] at h; cases h
  · rw [if_neg hc] at h; exact ⟨hc, Option.some.inj h⟩
theorem rmL_in {x y v : Int64} (h : rmL x y = some v) : ¬ y = 0 ∧ x - x / y * y = v := by
  unfold rmL at h
  by_cases hc : y = 0
  · rw [if_pos hc] at h; cases h
  · rw [if_neg hc] at h; exact ⟨hc, Option.some.inj h⟩
theorem bck_in {x v : Int32} (h : bck x = some v) : x = v ∧ (v = 0 ∨ v = 1) := by
  unfold bck at h
  by_cases hc : x = 0 ∨ x = 1
  · rw [if_pos hc] at h; obtain rfl := Option.some.inj h; exact ⟨rfl, hc⟩
  · rw [if_neg hc] at h; cases h

section XR
variable {p : Program} {l : Launch} {e : Env} {R : Room} {s : State} {m : MethodId} {args : Array Value} {below : List Frame} {meth : Method} {c : Code} {H : Heap} {locs : List Loc} {cells slots : Nat} {Q : State → Prop}
variable {cc : ByteArray} {pc : Nat} {ls : Array Slot} {rest : List Value} {D : va_G} {cl : List vw_C} {ws : va_W} {tys : List (ClassId × FieldType)} {a : Nat} {A : Nat → Prop} {H0 : Heap} {cA : ClassId} {n : Nat} {f g : Nat → Int32} {i x v : Int32}
theorem x_iald (hx : p.tables.exec = Jvm.exec) (hb : c.code = cc) (hK : va_K D cl tys s) (hP : va_P D cl ws H) (q0 t0 : Nat) (ha : ws[q0]? = some (a, .inl (cA, n, .inl f))) (ht : tys[t0]? = some (cA, .int)) (hr : rd n f i = some v) (hdg : decode cc pc = .ok (.iaload, 1))
    (kk : W p l e R s m args below meth c H locs cells slots Q (F0 m (pc + 1) ls (.int v :: rest))) : W p l e R s m args below meth c H locs cells slots Q (F0 m pc ls (.int i :: .ref a :: rest)) := by
  obtain ⟨hin, rfl⟩ := rd_in hr
  exact va_iald hx hb hK hP q0 t0 ha ht hin hdg kk
theorem x_cald (hx : p.tables.exec = Jvm.exec) (hb : c.code = cc) (hK : va_K D cl tys s) (hP : va_P D cl ws H) (q0 t0 : Nat) (ha : ws[q0]? = some (a, .inl (cA, n, .inl f))) (ht : tys[t0]? = some (cA, .char)) (hr : rd n f i = some v) (hdg : decode cc pc = .ok (.caload, 1))
    (kk : W p l e R s m args below meth c H locs cells slots Q (F0 m (pc + 1) ls (.int v :: rest))) : W p l e R s m args below meth c H locs cells slots Q (F0 m pc ls (.int i :: .ref a :: rest)) := by
  obtain ⟨hin, rfl⟩ := rd_in hr
  exact va_cald hx hb hK hP q0 t0 ha ht hin hdg kk
theorem x_zald (hx : p.tables.exec = Jvm.exec) (hb : c.code = cc) (hK : va_K D cl tys s) (hP : va_P D cl ws H) (q0 t0 : Nat) (ha : ws[q0]? = some (a, .inl (cA, n, .inl f))) (ht : tys[t0]? = some (cA, .boolean)) (hr : rd n f i = some v) (hdg : decode cc pc = .ok (.baload, 1))
    (kk : W p l e R s m args below meth c H locs cells slots Q (F0 m (pc + 1) ls (.int v :: rest))) : W p l e R s m args below meth c H locs cells slots Q (F0 m pc ls (.int i :: .ref a :: rest)) := by
  obtain ⟨hin, rfl⟩ := rd_in hr
  exact va_zald hx hb hK hP q0 t0 ha ht hin hdg kk
theorem x_iast (hx : p.tables.exec = Jvm.exec) (hb : c.code = cc) (hK : va_K D cl tys s) (hP : va_P D cl ws H) (hD : va_D A ws) (hS : va_S A H0 H locs) (q0 t0 : Nat) (ha : ws[q0]? = some (a, .inl (cA, n, .inl f))) (ht : tys[t0]? = some (cA, .int)) (hw : wr n f i x = some g) (hdg : decode cc pc = .ok (.iastore, 1))
    (kk : ∀ (H1 : Heap) (locs1 : List Loc), va_P D cl (ws.set q0 (a, .inl (cA, n, .inl g))) H1 → va_D A (ws.set q0 (a, .inl (cA, n, .inl g))) → va_S A H0 H1 locs1 → W p l e R s m args below meth c H1 locs1 cells slots Q (F0 m (pc + 1) ls rest)) : W p l e R s m args below meth c H locs cells slots Q (F0 m pc ls (.int x :: .int i :: .ref a :: rest)) := by
  obtain ⟨hin, rfl⟩ := wr_in hw
  exact va_iast hx hb hK hP hD hS q0 t0 ha ht hin hdg kk
theorem x_cast (hx : p.tables.exec = Jvm.exec) (hb : c.code = cc) (hK : va_K D cl tys s) (hP : va_P D cl ws H) (hD : va_D A ws) (hS : va_S A H0 H locs) (q0 t0 : Nat) (ha : ws[q0]? = some (a, .inl (cA, n, .inl f))) (ht : tys[t0]? = some (cA, .char)) (hw : wr n f i x = some g) (hv : vp_nar .char x = x) (hdg : decode cc pc = .ok (.castore, 1))
    (kk : ∀ (H1 : Heap) (locs1 : List Loc), va_P D cl (ws.set q0 (a, .inl (cA, n, .inl g))) H1 → va_D A (ws.set q0 (a, .inl (cA, n, .inl g))) → va_S A H0 H1 locs1 → W p l e R s m args below meth c H1 locs1 cells slots Q (F0 m (pc + 1) ls rest)) : W p l e R s m args below meth c H locs cells slots Q (F0 m pc ls (.int x :: .int i :: .ref a :: rest)) := by
  obtain ⟨hin, rfl⟩ := wr_in hw
  exact va_cast hx hb hK hP hD hS q0 t0 ha ht hin hdg (by rw [hv]; exact kk)
theorem x_zast (hx : p.tables.exec = Jvm.exec) (hb : c.code = cc) (hK : va_K D cl tys s) (hP : va_P D cl ws H) (hD : va_D A ws) (hS : va_S A H0 H locs) (q0 t0 : Nat) (ha : ws[q0]? = some (a, .inl (cA, n, .inl f))) (ht : tys[t0]? = some (cA, .boolean)) (hw : wr n f i x = some g) (hv : vp_nar .boolean x = x) (hdg : decode cc pc = .ok (.bastore, 1))
    (kk : ∀ (H1 : Heap) (locs1 : List Loc), va_P D cl (ws.set q0 (a, .inl (cA, n, .inl g))) H1 → va_D A (ws.set q0 (a, .inl (cA, n, .inl g))) → va_S A H0 H1 locs1 → W p l e R s m args below meth c H1 locs1 cells slots Q (F0 m (pc + 1) ls rest)) : W p l e R s m args below meth c H locs cells slots Q (F0 m pc ls (.int x :: .int i :: .ref a :: rest)) := by
  obtain ⟨hin, rfl⟩ := wr_in hw
  exact va_zast hx hb hK hP hD hS q0 t0 ha ht hin hdg (by rw [hv]; exact kk)
theorem x_idiv {y : Int32} (hx : p.tables.exec = Jvm.exec) (hb : c.code = cc) (hw : dvI x y = some v) (hdg : decode cc pc = .ok (.idiv, 1)) (kk : W p l e R s m args below meth c H locs cells slots Q (F0 m (pc + 1) ls (.int v :: rest))) : W p l e R s m args below meth c H locs cells slots Q (F0 m pc ls (.int y :: .int x :: rest)) := by
  obtain ⟨hin, rfl⟩ := dvI_in hw
  exact lv_idiv hx hb hdg hin kk
theorem x_irem {y : Int32} (hx : p.tables.exec = Jvm.exec) (hb : c.code = cc) (hw : rmI x y = some v) (hdg : decode cc pc = .ok (.irem, 1)) (kk : W p l e R s m args below meth c H locs cells slots Q (F0 m (pc + 1) ls (.int v :: rest))) : W p l e R s m args below meth c H locs cells slots Q (F0 m pc ls (.int y :: .int x :: rest)) := by
  obtain ⟨hin, rfl⟩ := rmI_in hw
  exact lv_irem hx hb hdg hin kk
theorem x_ldiv {x y v : Int64} (hx : p.tables.exec = Jvm.exec) (hb : c.code = cc) (hw : dvL x y = some v) (hdg : decode cc pc = .ok (.ldiv, 1)) (kk : W p l e R s m args below meth c H locs cells slots Q (F0 m (pc + 1) ls (.long v :: rest))) : W p l e R s m args below meth c H locs cells slots Q (F0 m pc ls (.long y :: .long x :: rest)) := by
  obtain ⟨hin, rfl⟩ := dvL_in hw
  exact lv_ldiv hx hb hdg hin kk
theorem x_lrem {x y v : Int64} (hx : p.tables.exec = Jvm.exec) (hb : c.code = cc) (hw : rmL x y = some v) (hdg : decode cc pc = .ok (.lrem, 1)) (kk : W p l e R s m args below meth c H locs cells slots Q (F0 m (pc + 1) ls (.long v :: rest))) : W p l e R s m args below meth c H locs cells slots Q (F0 m pc ls (.long y :: .long x :: rest)) := by
  obtain ⟨hin, rfl⟩ := rmL_in hw
  exact lv_lrem hx hb hdg hin kk
/-- a new world in another order -/
theorem x_perm {ws ws' : va_W} {A : Nat → Prop} (hP : va_P D cl ws H) (hD : va_D A ws) (is : List Nat) (hn : va_nd is = true) (h1 : is.filterMap (fun i => ws[i]?) = ws') (h2 : is.map (fun i => ws[i]?) = ws'.map some) : va_P D cl ws' H ∧ va_D A ws' := ⟨hP.sub is h1, hD.sub is hn h2⟩
end XR
theorem vp_nar_c (z : Int32) : vp_nar .char (z.toUInt32 % 65536).toInt32 = (z.toUInt32 % 65536).toInt32 := pk_vc z
theorem x_tout0_9 {x : Int32} (h0 : ¬ x = 0) (h1 : ¬ x = 1) (h2 : ¬ x = 2) (h3 : ¬ x = 3) (h4 : ¬ x = 4) (h5 : ¬ x = 5) (h6 : ¬ x = 6) (h7 : ¬ x = 7) (h8 : ¬ x = 8) (h9 : ¬ x = 9) : x.toInt < 0 ∨ 9 < x.toInt := by
  have k0 : x.toInt ≠ 0 := fun e => h0 (Int32.toInt_inj.mp (e.trans (by decide)))
  have k1 : x.toInt ≠ 1 := fun e => h1 (Int32.toInt_inj.mp (e.trans (by decide)))
  have k2 : x.toInt ≠ 2 := fun e => h2 (Int32.toInt_inj.mp (e.trans (by decide)))
  have k3 : x.toInt ≠ 3 := fun e => h3 (Int32.toInt_inj.mp (e.trans (by decide)))
  have k4 : x.toInt ≠ 4 := fun e => h4 (Int32.toInt_inj.mp (e.trans (by decide)))
  have k5 : x.toInt ≠ 5 := fun e => h5 (Int32.toInt_inj.mp (e.trans (by decide)))
  have k6 : x.toInt ≠ 6 := fun e => h6 (Int32.toInt_inj.mp (e.trans (by decide)))
  have k7 : x.toInt ≠ 7 := fun e => h7 (Int32.toInt_inj.mp (e.trans (by decide)))
  have k8 : x.toInt ≠ 8 := fun e => h8 (Int32.toInt_inj.mp (e.trans (by decide)))
  have k9 : x.toInt ≠ 9 := fun e => h9 (Int32.toInt_inj.mp (e.trans (by decide)))
  omega
theorem x_tout0_5 {x : Int32} (h0 : ¬ x = 0) (h1 : ¬ x = 1) (h2 : ¬ x = 2) (h3 : ¬ x = 3) (h4 : ¬ x = 4) (h5 : ¬ x = 5) : x.toInt < 0 ∨ 5 < x.toInt := by
  have k0 : x.toInt ≠ 0 := fun e => h0 (Int32.toInt_inj.mp (e.trans (by decide)))
  have k1 : x.toInt ≠ 1 := fun e => h1 (Int32.toInt_inj.mp (e.trans (by decide)))
  have k2 : x.toInt ≠ 2 := fun e => h2 (Int32.toInt_inj.mp (e.trans (by decide)))
  have k3 : x.toInt ≠ 3 := fun e => h3 (Int32.toInt_inj.mp (e.trans (by decide)))
  have k4 : x.toInt ≠ 4 := fun e => h4 (Int32.toInt_inj.mp (e.trans (by decide)))
  have k5 : x.toInt ≠ 5 := fun e => h5 (Int32.toInt_inj.mp (e.trans (by decide)))
  omega
theorem x_tout1_9 {x : Int32} (h1 : ¬ x = 1) (h2 : ¬ x = 2) (h3 : ¬ x = 3) (h4 : ¬ x = 4) (h5 : ¬ x = 5) (h6 : ¬ x = 6) (h7 : ¬ x = 7) (h8 : ¬ x = 8) (h9 : ¬ x = 9) : x.toInt < 1 ∨ 9 < x.toInt := by
  have k1 : x.toInt ≠ 1 := fun e => h1 (Int32.toInt_inj.mp (e.trans (by decide)))
  have k2 : x.toInt ≠ 2 := fun e => h2 (Int32.toInt_inj.mp (e.trans (by decide)))
  have k3 : x.toInt ≠ 3 := fun e => h3 (Int32.toInt_inj.mp (e.trans (by decide)))
  have k4 : x.toInt ≠ 4 := fun e => h4 (Int32.toInt_inj.mp (e.trans (by decide)))
  have k5 : x.toInt ≠ 5 := fun e => h5 (Int32.toInt_inj.mp (e.trans (by decide)))
  have k6 : x.toInt ≠ 6 := fun e => h6 (Int32.toInt_inj.mp (e.trans (by decide)))
  have k7 : x.toInt ≠ 7 := fun e => h7 (Int32.toInt_inj.mp (e.trans (by decide)))
  have k8 : x.toInt ≠ 8 := fun e => h8 (Int32.toInt_inj.mp (e.trans (by decide)))
  have k9 : x.toInt ≠ 9 := fun e => h9 (Int32.toInt_inj.mp (e.trans (by decide)))
  omega
theorem x_tout0_26 {x : Int32} (h0 : ¬ x = 0) (h1 : ¬ x = 1) (h2 : ¬ x = 2) (h3 : ¬ x = 3) (h4 : ¬ x = 4) (h5 : ¬ x = 5) (h6 : ¬ x = 6) (h7 : ¬ x = 7) (h8 : ¬ x = 8) (h9 : ¬ x = 9) (h10 : ¬ x = 10) (h11 : ¬ x = 11) (h12 : ¬ x = 12) (h13 : ¬ x = 13) (h14 : ¬ x = 14) (h15 : ¬ x = 15) (h16 : ¬ x = 16) (h17 : ¬ x = 17) (h18 : ¬ x = 18) (h19 : ¬ x = 19) (h20 : ¬ x = 20) (h21 : ¬ x = 21) (h22 : ¬ x = 22) (h23 : ¬ x = 23) (h24 : ¬ x = 24) (h25 : ¬ x = 25) (h26 : ¬ x = 26) : x.toInt < 0 ∨ 26 < x.toInt := by
  have k0 : x.toInt ≠ 0 := fun e => h0 (Int32.toInt_inj.mp (e.trans (by decide)))
  have k1 : x.toInt ≠ 1 := fun e => h1 (Int32.toInt_inj.mp (e.trans (by decide)))
  have k2 : x.toInt ≠ 2 := fun e => h2 (Int32.toInt_inj.mp (e.trans (by decide)))
  have k3 : x.toInt ≠ 3 := fun e => h3 (Int32.toInt_inj.mp (e.trans (by decide)))
  have k4 : x.toInt ≠ 4 := fun e => h4 (Int32.toInt_inj.mp (e.trans (by decide)))
  have k5 : x.toInt ≠ 5 := fun e => h5 (Int32.toInt_inj.mp (e.trans (by decide)))
  have k6 : x.toInt ≠ 6 := fun e => h6 (Int32.toInt_inj.mp (e.trans (by decide)))
  have k7 : x.toInt ≠ 7 := fun e => h7 (Int32.toInt_inj.mp (e.trans (by decide)))
  have k8 : x.toInt ≠ 8 := fun e => h8 (Int32.toInt_inj.mp (e.trans (by decide)))
  have k9 : x.toInt ≠ 9 := fun e => h9 (Int32.toInt_inj.mp (e.trans (by decide)))
  have k10 : x.toInt ≠ 10 := fun e => h10 (Int32.toInt_inj.mp (e.trans (by decide)))
  have k11 : x.toInt ≠ 11 := fun e => h11 (Int32.toInt_inj.mp (e.trans (by decide)))
  have k12 : x.toInt ≠ 12 := fun e => h12 (Int32.toInt_inj.mp (e.trans (by decide)))
  have k13 : x.toInt ≠ 13 := fun e => h13 (Int32.toInt_inj.mp (e.trans (by decide)))
  have k14 : x.toInt ≠ 14 := fun e => h14 (Int32.toInt_inj.mp (e.trans (by decide)))
  have k15 : x.toInt ≠ 15 := fun e => h15 (Int32.toInt_inj.mp (e.trans (by decide)))
  have k16 : x.toInt ≠ 16 := fun e => h16 (Int32.toInt_inj.mp (e.trans (by decide)))
  have k17 : x.toInt ≠ 17 := fun e => h17 (Int32.toInt_inj.mp (e.trans (by decide)))
  have k18 : x.toInt ≠ 18 := fun e => h18 (Int32.toInt_inj.mp (e.trans (by decide)))
  have k19 : x.toInt ≠ 19 := fun e => h19 (Int32.toInt_inj.mp (e.trans (by decide)))
  have k20 : x.toInt ≠ 20 := fun e => h20 (Int32.toInt_inj.mp (e.trans (by decide)))
  have k21 : x.toInt ≠ 21 := fun e => h21 (Int32.toInt_inj.mp (e.trans (by decide)))
  have k22 : x.toInt ≠ 22 := fun e => h22 (Int32.toInt_inj.mp (e.trans (by decide)))
  have k23 : x.toInt ≠ 23 := fun e => h23 (Int32.toInt_inj.mp (e.trans (by decide)))
  have k24 : x.toInt ≠ 24 := fun e => h24 (Int32.toInt_inj.mp (e.trans (by decide)))
  have k25 : x.toInt ≠ 25 := fun e => h25 (Int32.toInt_inj.mp (e.trans (by decide)))
  have k26 : x.toInt ≠ 26 := fun e => h26 (Int32.toInt_inj.mp (e.trans (by decide)))
  omega
