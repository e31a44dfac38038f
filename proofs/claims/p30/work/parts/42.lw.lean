/-! the law's methods that catch: their contracts' form; the read of the script's cell -/
def NC (U : State) : Prop := ∀ i j : Nat, (i = 1 ∨ i = 2 ∨ i = 3) → (j = 1 ∨ j = 2 ∨ j = 3) → i ≠ j → va_Nc (exn i) (exn j) U
theorem NC.moved {u U : State} (hvm : u.vm.Alike U.vm) (h : NC u) : NC U := fun i j a b c => va_Nc.moved hvm (h i j a b c)
def LWp (D : va_G) (tys : List (ClassId × FieldType)) (args : List Value) (ws : va_W) (sz : Nat) : Array Value → State → Prop := va_Pc args (fun U => U.heap.size = sz ∧ va_P D vwCl ws U.heap ∧ va_K D vwCl tys U ∧ va_D (fun _ => True) ws ∧ NW U ∧ EX (va_A ws sz) U U.heap ∧ NC U)
def LW (l : Launch) (D : va_G) (tys : List (ClassId × FieldType)) (y : MethodName) (c : ByteArray) (n : Nat) (hh : List (Nat × Nat × Nat × Nat)) (rm : Room) (args : List Value) (ws ws' : va_W) (ret : Option Value) : Prop :=
  ∀ sz : Nat, vx_Met l y (Cond.codeWith y c n (some .int) hh :: GW) rm (LWp D tys args ws sz) (CTXq D ws' (va_A ws sz) (.inr ret)) (CTXx D ws' (va_A ws sz) (.inr ret)) rm.cells rm.slots (va_A ws sz)
theorem LWp.blind {D : va_G} {tys : List (ClassId × FieldType)} {args : List Value} {ws : va_W} {sz : Nat} : FrameBlind (LWp D tys args ws sz) := by
  intro a U g mk q
  obtain ⟨q0, q1, qP, qK, qD, qN, qE, qC⟩ := q
  exact ⟨q0, q1, qP, va_K.moved (u := U) (U := U.calling g mk a) (Vm.Alike.refl U.vm) qK, qD, NW.same (u := U) (U := U.calling g mk a) rfl qN, EX.same (u := U) (U := U.calling g mk a) rfl qE, NC.moved (u := U) (U := U.calling g mk a) (Vm.Alike.refl U.vm) qC⟩
/-- what a method that catches answers -/
def lkv (k1 : Nat) : Sum Nat Int32 → Option Int32
  | .inr v => some v
  | .inl k => if k = k1 then some (-1) else if k = 3 then some (-2) else none
theorem perm_nil (w : va_W) : w.Perm (w ++ []) := by rw [List.append_nil]
theorem LW.mk {l : Launch} {D : va_G} {tys : List (ClassId × FieldType)} {y : MethodName} {c : ByteArray} {n : Nat} {hh : List (Nat × Nat × Nat × Nat)} {rm : Room} {av : List Value} {ws ws' : va_W} {v : Int32}
    (hy : plainName y.cls = true ∧ y.cls = RL) (hfit : (lg_sl av).length ≤ n)
    (body : ∀ (p : Program) (e : Env) (s : State) (m : MethodId) (args : Array Value) (below : List Frame) (meth : Method) (cd : Code) (A : Nat → Prop) (Q : State → Prop), p.tables.exec = Jvm.exec → cd.code = c → cd.maxLocals = n → s.vm.findClass RL = some m.cls → cd.exceptionTable.toList = tableOf hh → (∀ w ∈ GW, w.before args s = true) → NW s → va_K D vwCl tys s → EX A s s.heap → NC s → (∀ q : Nat, s.heap.size ≤ q → A q) → va_P D vwCl ws s.heap → va_D A ws → va_S A s.heap s.heap [] →
      (∀ (H : Heap) (locs : List Loc) (k1 k2 : Nat) (pc : Nat) (ls : Array Slot), va_P D vwCl ws' H → va_D A ws' → va_S A s.heap H locs → k1 ≤ rm.cells → k2 ≤ rm.slots → decode c pc = .ok (.ireturn, 1) → W p l e rm s m args below meth cd H locs k1 k2 Q (F0 m pc ls [.int v])) →
      (∀ ls : Array Slot, lv_has ls n (lv_args 0 av) → W p l e rm s m args below meth cd s.heap [] 0 0 Q (F0 m 0 ls []))) :
    LW l D tys y c n hh rm av ws ws' (some (.int v)) := by
  intro sz
  refine vx_ofWH (cc := c) (maxL := n) (ret := some .int) (hh := hh) hy.1 rfl ?_
  intro p e s m args below meth cd s₁ B hml hv
  obtain ⟨rfl, hsz, hP, hK, hD0, hN, hE, hC⟩ := hv
  have hts := atoms_spec (ws := Cond.codeWith y c n (some .int) hh :: GW) B.pre
  have htab := vx_table (x := y) B (hts _ List.mem_cons_self)
  have htg : ∀ w ∈ GW, w.before (List.toArray av) s = true := fun w hw => hts w (List.mem_cons_of_mem _ hw)
  have hx := B.exec
  have hb := B.bytes
  have hr := B.returns
  have hlk := B.notSynchronized
  have hown : s.vm.findClass RL = some m.cls := by rw [← hy.2]; exact findClass_of_methodNamed B.named
  subst hsz
  have hl := lv_entry av (n := n) hfit
  rw [lg_entry_eq]
  refine body p e s m _ below meth cd _ _ hx hb hml hown htab htg hN hK hE hC (fun q h => Or.inr h) hP (hD0.self (sz := s.heap.size)) va_S.rf ?_ _ hl
  intro H locs k1 k2 pc ls hP hD hS h1 h2 hdg
  refine W.widen h1 h2 ?_
  refine vx_ret ?_
  exact W.zret (v := v) hx hb (hr.trans rfl) rfl (fun t ht hW => ⟨⟨_, rfl, rfl⟩, by rw [ht]; exact hP, hD, hS.F ht⟩) hS.2.2 hdg hlk
theorem XW1 : Cond.castable (exn 1) (exn 1) ∈ XWs := by decide +kernel
theorem XW2 : Cond.castable (exn 2) (exn 2) ∈ XWs := by decide +kernel
theorem XW3 : Cond.castable (exn 3) (exn 3) ∈ XWs := by decide +kernel
section LAWC
variable {p : Program} {l : Launch} {e : Env} {R : Room} {s : State} {m : MethodId} {args : Array Value} {below : List Frame} {meth : Method} {cd : Code} {H : Heap} {locs : List Loc} {cells slots : Nat} {Q : State → Prop}
variable {pc : Nat} {ls : Array Slot} {rest st0 : List Value} {A0 : Nat → Prop} {H0 : Heap} {D : va_G} {tys : List (ClassId × FieldType)}
/-- the call of such a method -/
theorem cLWp {y : MethodName} {c cc : ByteArray} {n nL k index : Nat} {hh : List (Nat × Nat × Nat × Nat)} {rm : Room} {av rest : List Value} {wc wc' ws wr wn : va_W} {ret : Option Value} {own : String}
    (hx : p.tables.exec = Jvm.exec) (hb : cd.code = cc) (hml : cd.maxLocals = nL) (hown : s.vm.findClass own = some m.cls) (htg : ∀ w ∈ GW, w.before args s = true) (hN : NW s) (hK : va_K D vwCl tys s) (hE : EX A0 s H0) (hC : NC s)
    (hM : LW l D tys y c n hh rm av wc wc' ret)
    (hG : (Cond.methodLink own index y ∈ GW) ∧ Cond.static y ∈ GW ∧ Cond.initialized y.cls ∈ GW ∧ Cond.codeWith y c n (some .int) hh ∈ GW)
    (hd : y.cls ≠ "java/lang/invoke/MethodHandle" ∧ y.cls ≠ "java/lang/invoke/VarHandle" ∧ (parseMethodDescriptor y.desc).map (fun d => d.parameters.length) = some k) (hlen : av.length = k)
    (hR : (rm.frames + 1 ≤ R.frames ∧ 8 + (n + 11) + rm.locals ≤ R.locals) ∧ cells + rm.cells ≤ R.cells ∧ slots + rm.slots ≤ R.slots)
    (hP : va_P D vwCl ws H) (hD : va_D A0 ws) (hS : va_S A0 H0 H locs) (hA : ∀ q, H0.size ≤ q → A0 q)
    (hp : ws.Perm (wc ++ wr)) (hpn : (wr ++ wc').Perm wn)
    (hsz : ls.size = nL) (hst : st0 = av.reverse ++ rest) (hW : (rest.map fun v => v.category).sum ≤ 8) {st1 : List Value} {k1 k2 : Nat} (hs1 : ret.toList ++ rest = st1) (hk1 : cells + rm.cells = k1) (hk2 : slots + rm.slots = k2) (hdg : decode cc pc = .ok (.invokestatic index, 3))
    (kk : ∀ (H1 : Heap) (locs1 : List Loc), va_P D vwCl wn H1 → va_D A0 wn → va_S A0 H0 H1 locs1 → W p l e R s m args below meth cd H1 locs1 k1 k2 Q (F0 m (pc + 3) ls st1)) :
    W p l e R s m args below meth cd H locs cells slots Q (F0 m pc ls st0) := by
  subst hs1
  subst hk1
  subst hk2
  have hPc := (hP.perm hp).left
  have hDc := (hD.perm hp).left
  have hG2 : GoodIn GW (va_wsS own index y (Cond.codeWith y c n (some .int) hh :: GW)) := by
    intro w hw
    have hin : w ∈ GW := by
      unfold va_wsS at hw
      simp only [List.mem_append, List.mem_cons, List.not_mem_nil, or_false] at hw
      rcases hw with (h | h | h) | h | h
      · rw [h]; exact hG.1
      · rw [h]; exact hG.2.1
      · rw [h]; exact hG.2.2.1
      · rw [h]; exact hG.2.2.2
      · exact h
    exact ⟨hin, gw_good hin⟩
  exact cx_usep rfl rfl (vx_runSX (hh := hh) (g := F0 m pc ls st0) (H := H) (locs := locs) (cells := cells) (slots := slots) (Ts := GW) (own := own) (As := av) (rest := rest) ⟨hx, hb, hml, hown, htg⟩ (hM H.size)
    (vx_cwSW k htg hG2 rfl rfl rfl hd hR.1) ⟨LWp.blind, fun U hU hW => ⟨rfl, by rw [hU], by rw [hU]; exact hPc, va_K.moved hW.alike hK, hDc.weaken (fun _ _ _ _ => trivial), hN.warm hW, by rw [hU]; exact hE.warm hW hS (va_freep hD hS hA hp), NC.moved hW.alike hC⟩⟩
    rfl hlen hsz hst (lv_room hW) hdg hR.2) hP hD hS hA hp hpn (fun H1 locs1 ret' ho hP hD hS => by
      obtain rfl := Sum.inr.inj ho
      exact kk H1 locs1 hP hD hS) (fun H1 locs1 k q ce ho => by cases ho)
end LAWC
/-! the script's cell: it is the caller's, from before -/
def SCp (D : va_G) (tys : List (ClassId × FieldType)) (args : List Value) (b L : Nat) (xs : Nat → Int32) (sz : Nat) : Array Value → State → Prop := va_Pc args (fun U => U.heap.size = sz ∧ va_X b L xs U U.heap ∧ b < U.heap.size ∧ va_K D vwCl tys U ∧ NW U)
def SC (l : Launch) (D : va_G) (tys : List (ClassId × FieldType)) (y : MethodName) (c : ByteArray) (n : Nat) (rm : Room) (args : List Value) (b L : Nat) (xs : Nat → Int32) (ret : Option Value) : Prop :=
  ∀ sz : Nat, Met l y (wsU y c n (some .int)) rm (SCp D tys args b L xs sz) (CTq D [] (va_A [] sz) ret) rm.cells rm.slots (va_A [] sz)
theorem SCp.blind {D : va_G} {tys : List (ClassId × FieldType)} {args : List Value} {b L : Nat} {xs : Nat → Int32} {sz : Nat} : FrameBlind (SCp D tys args b L xs sz) := by
  intro a U g mk q
  obtain ⟨q0, q1, qX, qb, qK, qN⟩ := q
  exact ⟨q0, q1, va_X.moved (u := U) (U := U.calling g mk a) (Vm.Alike.refl U.vm) qX, qb, va_K.moved (u := U) (U := U.calling g mk a) (Vm.Alike.refl U.vm) qK, NW.same (u := U) (U := U.calling g mk a) rfl qN⟩
section SCC
variable {p : Program} {l : Launch} {e : Env} {R : Room} {s : State} {m : MethodId} {args : Array Value} {below : List Frame} {meth : Method} {cd : Code} {H : Heap} {locs : List Loc} {cells slots : Nat} {Q : State → Prop}
variable {pc : Nat} {ls : Array Slot} {rest st0 : List Value} {A0 : Nat → Prop} {D : va_G} {tys : List (ClassId × FieldType)}
theorem cScr {y : MethodName} {c cc : ByteArray} {n nL k index b L : Nat} {xs : Nat → Int32} {rm : Room} {av rest : List Value} {ws : va_W} {ret : Option Value} {own : String}
    (hx : p.tables.exec = Jvm.exec) (hb : cd.code = cc) (hml : cd.maxLocals = nL) (hown : s.vm.findClass own = some m.cls) (htg : ∀ w ∈ GW, w.before args s = true) (hN : NW s) (hK : va_K D vwCl tys s)
    (hX : va_X b L xs s s.heap) (hbl : b < s.heap.size) (hbA : ¬ A0 b)
    (hM : SC l D tys y c n rm av b L xs ret)
    (hG : (Cond.methodLink own index y ∈ GW) ∧ Cond.static y ∈ GW ∧ Cond.initialized y.cls ∈ GW ∧ GoodIn GW (wsU y c n (some .int)))
    (hd : y.cls ≠ "java/lang/invoke/MethodHandle" ∧ y.cls ≠ "java/lang/invoke/VarHandle" ∧ (parseMethodDescriptor y.desc).map (fun d => d.parameters.length) = some k) (hlen : av.length = k)
    (hR : (rm.frames + 1 ≤ R.frames ∧ 8 + (n + 11) + rm.locals ≤ R.locals) ∧ cells + rm.cells ≤ R.cells ∧ slots + rm.slots ≤ R.slots)
    (hP : va_P D vwCl ws H) (hD : va_D A0 ws) (hS : va_S A0 s.heap H locs) (hA : ∀ q, s.heap.size ≤ q → A0 q)
    (hsz : ls.size = nL) (hst : st0 = av.reverse ++ rest) (hW : (rest.map fun v => v.category).sum ≤ 8) {st1 : List Value} {k1 k2 : Nat} (hs1 : ret.toList ++ rest = st1) (hk1 : cells + rm.cells = k1) (hk2 : slots + rm.slots = k2) (hdg : decode cc pc = .ok (.invokestatic index, 3))
    (kk : ∀ (H1 : Heap) (locs1 : List Loc), va_P D vwCl ws H1 → va_D A0 ws → va_S A0 s.heap H1 locs1 → W p l e R s m args below meth cd H1 locs1 k1 k2 Q (F0 m (pc + 3) ls st1)) :
    W p l e R s m args below meth cd H locs cells slots Q (F0 m pc ls st0) := by
  have hXH : va_X b L xs s H := va_X.kept hX (hS.2.1 b hbl hbA)
  have hbH : b < H.size := Nat.lt_of_lt_of_le hbl hS.1
  exact cc_usep hs1 hk1 hk2 (va_runS (g := F0 m pc ls st0) (H := H) (locs := locs) (cells := cells) (slots := slots) (Ts := GW) (own := own) (As := av) (rest := rest) ⟨hx, hb, hml, hown, htg⟩ (hM H.size)
    ⟨callB_of k htg hG.2.2.2 rfl rfl rfl (htg _ hG.2.2.1) (htg _ hG.1) hd hR.1, htg _ hG.2.1⟩ ⟨SCp.blind, fun U hU hW => ⟨rfl, by rw [hU], by rw [hU]; exact va_X.moved hW.alike hXH, by rw [hU]; exact hbH, va_K.moved hW.alike hK, hN.warm hW⟩⟩
    rfl hlen hsz hst (lv_room hW) hdg hR.2) hP hD hS hA (List.Perm.refl ([] ++ ws)) (by rw [List.append_nil]) kk
end SCC
