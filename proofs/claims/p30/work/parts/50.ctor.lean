/-! constructors -/
theorem ra_of {U : State} {ty : FieldType} {c : ClassId} (hty : ty = .int ∨ ty = .boolean ∨ ty = .char ∨ ty = .long) (h : U.vm.findClass ("[" ++ ty.toString) = some c) : va_RA U c ty := by
  rcases hty with rfl | rfl | rfl | rfl <;> exact h
theorem arr_of {U : State} {ty : FieldType} {c : ClassId} {k : Class} {comp : ClassId} (h2 : U.vm.classes[c]? = some k) (h3 : k.kind = .array comp ty) : ArrOfT U c ty :=
  fun n z => ⟨fun k h => (by cases h), k, h2, comp, h3⟩
theorem ty_ok {s : State} {args : Array Value} (hi : (Cond.arrayClass .int).before args s = true) (hz : (Cond.arrayClass .boolean).before args s = true) (hc : (Cond.arrayClass .char).before args s = true) (ho : (Cond.arrayOver (.object "SquaredPaper$Figure")).before args s = true) :
    ∃ cy : Nat → ClassId, ∀ (k : Nat) (q : ClassId × FieldType), (TY cy)[k]? = some q → ArrOfT s q.1 q.2 ∧ va_RA s q.1 q.2 := by
  obtain ⟨c0, k0, p0, a1, a2, a3⟩ := Cond.arrayClass_spec hi
  obtain ⟨c1, k1, p1, b1, b2, b3⟩ := Cond.arrayClass_spec hz
  obtain ⟨c2, k2, p2, d1, d2, d3⟩ := Cond.arrayClass_spec hc
  obtain ⟨p3, c3, k3, f1, -, f2, f3, f4⟩ := Cond.arrayOver_spec ho
  refine ⟨fun n => if n = 0 then c0 else if n = 1 then c1 else if n = 2 then c2 else c3, fun k q hk => ?_⟩
  rcases (by have h := (List.getElem?_eq_some_iff.mp hk).1; have h : k < 4 := h; omega : k = 0 ∨ k = 1 ∨ k = 2 ∨ k = 3) with rfl | rfl | rfl | rfl
  · obtain rfl := Option.some.inj hk
    exact ⟨arr_of a2 a3, ra_of (by simp) a1⟩
  · obtain rfl := Option.some.inj hk
    exact ⟨arr_of b2 b3, ra_of (by simp) b1⟩
  · obtain rfl := Option.some.inj hk
    exact ⟨arr_of d2 d3, ra_of (by simp) d1⟩
  · obtain rfl := Option.some.inj hk
    exact ⟨arr_of f2 f3, k3, p3, f2, f3, f1, f4⟩
section NEWA
variable {p : Program} {l : Launch} {e : Env} {R : Room} {s : State} {m : MethodId} {args : Array Value} {below : List Frame} {meth : Method} {c : Code} {H : Heap} {locs : List Loc} {cells slots : Nat} {Q : State → Prop}
variable {cc : ByteArray} {pc : Nat} {ls : Array Slot} {rest : List Value} {D : va_G} {cl : List vw_C} {ws : va_W} {tys : List (ClassId × FieldType)} {A : Nat → Prop} {H0 : Heap}
/-- a new row of numbers, of the class that the table names -/
theorem x_newa (hx : p.tables.exec = Jvm.exec) (hb : c.code = cc) {atype : ArrayType} {ty : FieldType} {cA : ClassId} (harr : (Cond.arrayClass ty).before args s = true) (hty : newarray.typeOf atype = ty) (hK : va_K D cl tys s) (t0 : Nat) (ht : tys[t0]? = some (cA, ty)) (hnum : ty = .int ∨ ty = .boolean ∨ ty = .char) (hP : va_P D cl ws H) (hD : va_D A ws) (hS : va_S A H0 H locs) (hA : ∀ q, H0.size ≤ q → A q)
    {n : Int32} (N : Nat) {k1 k2 : Nat} (hn : ¬ n < 0) (hN : n.toNatClampNeg = N) (hbytes : N * componentBytes ty ≤ 536870912) (hk1 : cells + 1 = k1) (hk2 : slots + N = k2) (hcells : k1 ≤ R.cells) (hslots : k2 ≤ R.slots) (hdg : decode cc pc = .ok (.newarray atype, 2))
    (kk : ∀ (q : Nat) (H1 : Heap), va_P D cl (ws ++ [(q, .inl (cA, N, .inl (fun _ => 0)))]) H1 → va_D A (ws ++ [(q, .inl (cA, N, .inl (fun _ => 0)))]) → va_S A H0 H1 locs →
      W p l e R s m args below meth c H1 locs k1 k2 Q (F0 m (pc + 2) ls (.ref q :: rest))) : W p l e R s m args below meth c H locs cells slots Q (F0 m pc ls (.int n :: rest)) := by
  subst hk1 hk2
  refine va_newa (a0 := (N, .inl (fun _ => 0))) hx hb (by rw [hty]; exact harr) hty hK hP hD hS hA (fun cA => by rw [vp_cell_i]; rcases hnum with rfl | rfl | rfl <;> rfl) hn hN hbytes hcells hslots hdg (fun q cB H1 hK1 hP1 hD1 hS1 => ?_)
  have hc : cB = cA := by
    have h1 := (hK1.2 tys.length (cB, ty) (by rw [List.getElem?_append_right (Nat.le_refl _), Nat.sub_self]; rfl)).2
    have h2 := (hK.2 t0 _ ht).2
    rcases hnum with rfl | rfl | rfl
    all_goals exact Option.some.inj (Eq.trans (Eq.symm h1) h2)
  subst hc
  exact kk q H1 hP1 hD1 hS1
end NEWA
/-- a constructor: the world behind it is one of those that 'good' names -/
def CNp (D : va_G) (tys : List (ClassId × FieldType)) (args : List Value) (ws : va_W) (sz : Nat) : Array Value → State → Prop := va_Pc args (fun U => U.heap.size = sz ∧ va_P D vwCl ws U.heap ∧ va_K D vwCl tys U ∧ va_D (fun _ => True) ws ∧ NW U ∧ va_AO "SquaredPaper$Figure" U)
def CNq (D : va_G) (good : va_W → Prop) (A : Nat → Prop) : Array Value → State → Outcome → State → Prop := fun _ st oc t => oc = .returned none ∧ (∃ ws', good ws' ∧ va_P D vwCl ws' t.heap ∧ va_D A ws') ∧ va_F A st t
def CN (l : Launch) (D : va_G) (tys : List (ClassId × FieldType)) (y : MethodName) (c : ByteArray) (n : Nat) (rm : Room) (args : List Value) (ws : va_W) (good : va_W → Prop) : Prop :=
  ∀ sz : Nat, Met l y (wsU y c n none) rm (CNp D tys args ws sz) (CNq D good (va_A ws sz)) rm.cells rm.slots (va_A ws sz)
theorem CNp.blind {D : va_G} {tys : List (ClassId × FieldType)} {args : List Value} {ws : va_W} {sz : Nat} : FrameBlind (CNp D tys args ws sz) := by
  intro a U g mk q
  obtain ⟨q0, q1, qP, qK, qD, qN, qO⟩ := q
  exact ⟨q0, q1, qP, va_K.moved (u := U) (U := U.calling g mk a) (Vm.Alike.refl U.vm) qK, qD, NW.same (u := U) (U := U.calling g mk a) rfl qN, va_AO.moved (u := U) (U := U.calling g mk a) (Vm.Alike.refl U.vm) qO⟩
theorem CN.mk {l : Launch} {D : va_G} {tys : List (ClassId × FieldType)} {y : MethodName} {c : ByteArray} {n : Nat} {rm : Room} {av : List Value} {ws : va_W} {good : va_W → Prop} {own : String}
    (hy : plainName y.cls = true ∧ y.cls = own ∧ y.name = "<init>") (hfit : (lg_sl av).length ≤ n)
    (body : ∀ (p : Program) (e : Env) (s : State) (m : MethodId) (args : Array Value) (below : List Frame) (meth : Method) (cd : Code) (A : Nat → Prop) (Q : State → Prop), p.tables.exec = Jvm.exec → cd.code = c → cd.maxLocals = n → s.vm.findClass own = some m.cls → meth.name = "<init>" → (∀ w ∈ GW, w.before args s = true) → NW s → va_AO "SquaredPaper$Figure" s → va_K D vwCl tys s → (∀ q : Nat, s.heap.size ≤ q → A q) → va_P D vwCl ws s.heap → va_D A ws → va_S A s.heap s.heap [] →
      (∀ (H : Heap) (locs : List Loc) (pc : Nat) (ls : Array Slot) (ws' : va_W), good ws' → va_P D vwCl ws' H → va_D A ws' → va_S A s.heap H locs → decode c pc = .ok (.return_, 1) → W p l e rm s m args below meth cd H locs rm.cells rm.slots Q (F0 m pc ls [])) →
      (∀ ls : Array Slot, lv_has ls n (lv_args 0 av) → W p l e rm s m args below meth cd s.heap [] 0 0 Q (F0 m 0 ls []))) :
    CN l D tys y c n rm av ws good := by
  intro sz
  refine Met.ofW (cc := c) (maxL := n) (ret := none) hy.1 rfl ?_
  intro p e s m args below meth cd s₁ B hml hv
  obtain ⟨rfl, hsz, hP, hK, hD0, hN, hO⟩ := hv
  have hts := atoms_spec (ws := wsU y c n none) B.pre
  have hb := B.bytes
  have hx := B.exec
  have hr := B.returns
  have hlk := B.notSynchronized
  have hin : meth.name = "<init>" := (name_of_methodNamed B.named B.method).1.trans hy.2.2
  subst hsz
  have hl := lv_entry av (n := n) hfit
  rw [lg_entry_eq]
  exact body p e s m _ below meth cd _ _ hx hb hml (by rw [← hy.2.1]; exact findClass_of_methodNamed B.named) hin (fun w hw => hts w (List.mem_cons_of_mem _ hw)) hN hO hK (fun q h => Or.inr h) hP (hD0.self (sz := s.heap.size)) va_S.rf
    (fun H locs pc ls ws' hg hP hD hS hdg => W.vret hx hb hr (fun t ht hW => ⟨rfl, ⟨ws', hg, by rw [ht]; exact hP, hD⟩, hS.F ht⟩) hS.2.2 hdg hlk) _ hl
