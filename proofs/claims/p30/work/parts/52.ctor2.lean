section NIP
variable {p : Program} {l : Launch} {e : Env} {R : Room} {s : State} {m : MethodId} {args : Array Value} {below : List Frame} {meth : Method} {cd : Code} {H : Heap} {locs : List Loc} {cells slots : Nat} {Q : State → Prop}
variable {pc : Nat} {ls : Array Slot} {rest st0 : List Value} {A0 : Nat → Prop} {H0 : Heap} {D : va_G} {tys : List (ClassId × FieldType)}
/-- a constructor's call -/
theorem cNIp {y : MethodName} {c cc : ByteArray} {n nL index : Nat} {rm : Room} {rest : List Value} {b : Nat} {wc ws wr : va_W} {good : va_W → Prop} {own : String}
    (hx : p.tables.exec = Jvm.exec) (hb : cd.code = cc) (hml : cd.maxLocals = nL) (hown : s.vm.findClass own = some m.cls) (htg : ∀ w ∈ GW, w.before args s = true) (hN : NW s) (hO : va_AO "SquaredPaper$Figure" s) (hK : va_K D vwCl tys s)
    (hM : CN l D tys y c n rm [.ref b] wc good)
    (h1 : Cond.methodLink own index y ∈ GW) (h2 : Cond.instanceMethod y ∈ GW) (h3 : Cond.initialized y.cls ∈ GW) (h5 : Cond.code y c n none ∈ GW) (hname : y.name = "<init>")
    (hd : y.cls ≠ "java/lang/invoke/MethodHandle" ∧ y.cls ≠ "java/lang/invoke/VarHandle" ∧ (parseMethodDescriptor y.desc).map (fun d => d.parameters.length) = some 0)
    (hR : (rm.frames + 1 ≤ R.frames ∧ 8 + (n + 11) + rm.locals ≤ R.locals) ∧ cells + rm.cells ≤ R.cells ∧ slots + rm.slots ≤ R.slots)
    (hP : va_P D vwCl ws H) (hD : va_D A0 ws) (hS : va_S A0 H0 H locs) (hA : ∀ q, H0.size ≤ q → A0 q)
    (hp : ws.Perm (wc ++ wr)) (hsz : ls.size = nL) (hst : st0 = .ref b :: rest) (hW : (rest.map fun v => v.category).sum ≤ 8) {k1 k2 : Nat} (hk1 : cells + rm.cells = k1) (hk2 : slots + rm.slots = k2) (hdg : decode cc pc = .ok (.invokespecial index, 3))
    (kk : ∀ (H1 : Heap) (locs1 : List Loc) (w' : va_W), good w' → va_P D vwCl (wr ++ w') H1 → va_D A0 (wr ++ w') → va_S A0 H0 H1 locs1 → W p l e R s m args below meth cd H1 locs1 k1 k2 Q (F0 m (pc + 3) ls rest)) :
    W p l e R s m args below meth cd H locs cells slots Q (F0 m pc ls st0) := by
  subst hk1 hk2
  have hPc := (hP.perm hp).left
  have hDc := (hD.perm hp).left
  have hF := va_freep hD hS hA hp
  have hr := va_runI (p := p) (l := l) (e := e) (R := R) (s := s) (m := m) (args := args) (below := below) (meth := meth) (c := cd) (g := F0 m pc ls st0) (H := H) (locs := locs) (cells := cells) (slots := slots) (Ts := GW) (own := own) (As := []) (rest := rest) (b := b) ⟨hx, hb, hml, hown, htg⟩ (hM H.size)
    (cwI 0 htg (g_ws (fun _ h => h) h5) rfl rfl rfl (htg _ h3) (htg _ h1) (htg _ h2) hname hd hR.1) ⟨CNp.blind, fun U hU hW => ⟨rfl, by rw [hU], by rw [hU]; exact hPc, va_K.moved hW.alike hK, hDc.weaken (fun _ _ _ _ => trivial), hN.warm hW, va_AO.moved hW.alike hO⟩⟩
    rfl rfl hsz hst (lv_room hW) hdg hR.2
  intro T hT X
  obtain ⟨v, st₀, t, T', L, h0, X', hL, e1, e2, ⟨hv, ⟨w', hg, hP1, hD1⟩, hz, hk⟩, st⟩ := hr T hT X
  cases hv
  rw [h0] at hz hk
  rw [← e1] at hP1
  have hj := va_joinp (w1 := w') hP hD hp (fun q h1 h2 => by rw [e1]; exact hk q h1 h2) hF hP1 hD1
  obtain ⟨t2, a1, b1⟩ := kk T'.heap (locs ++ L) w' hg hj.1 hj.2
    ⟨Nat.le_trans hS.1 (by rw [e1]; exact hz), fun q h1 h2 => by rw [e1, hk q (Nat.lt_of_lt_of_le h1 hS.1) (fun z => h2 (hF q z))]; exact hS.2.1 q h1 h2, fun q hq => by
      rcases List.mem_append.mp hq with h | h
      · exact hS.2.2 q h
      · exact hF _ (hL q h)⟩ T' rfl X'
  exact ⟨t2, st t2 a1, b1⟩
theorem x_newq {cc : ByteArray} {index : Nat} {own : String} {ws : va_W} {cA : ClassId} (hx : p.tables.exec = Jvm.exec) (hb : cd.code = cc) (hown : s.vm.findClass own = some m.cls) (hcl : Cond.classLink own index RX1 ∈ GW) (htg : ∀ w ∈ GW, w.before args s = true) (hO : va_AO "SquaredPaper$Figure" s) (hK : va_K D vwCl tys s) (t0 : Nat) (ht : tys[t0]? = some (cA, .object "SquaredPaper$Figure")) (hP : va_P D vwCl ws H) (hD : va_D A0 ws) (hS : va_S A0 H0 H locs) (hA : ∀ q, H0.size ≤ q → A0 q)
    {n : Int32} (N : Nat) {k1 k2 : Nat} (hn : ¬ n < 0) (hN : n.toNatClampNeg = N) (hbytes : N * 4 ≤ 536870912) (hk1 : cells + 1 = k1) (hk2 : slots + N = k2) (hcells : k1 ≤ R.cells) (hslots : k2 ≤ R.slots) (hdg : decode cc pc = .ok (.anewarray index, 3))
    (kk : ∀ (q : Nat) (H1 : Heap), va_P D vwCl (ws ++ [(q, .inl (cA, N, .inr (.inr (.inr (.inr (fun _ => none))))))]) H1 → va_D A0 (ws ++ [(q, .inl (cA, N, .inr (.inr (.inr (.inr (fun _ => none))))))]) → va_S A0 H0 H1 locs →
      W p l e R s m args below meth cd H1 locs k1 k2 Q (F0 m (pc + 3) ls (.ref q :: rest))) : W p l e R s m args below meth cd H locs cells slots Q (F0 m pc ls (.int n :: rest)) := by
  subst hk1 hk2
  refine va_newq hx hb hown (htg _ hcl) hO hK hP hD hS hA hn hN hbytes hcells hslots hdg (fun q cB H1 hK1 hP1 hD1 hS1 => ?_)
  have hc : cB = cA := by
    obtain ⟨-, -, -, -, -, h1⟩ := (hK1.2 tys.length (cB, .object "SquaredPaper$Figure") (by rw [List.getElem?_append_right (Nat.le_refl _), Nat.sub_self]; rfl)).2
    obtain ⟨-, -, -, -, -, h2⟩ := (hK.2 t0 _ ht).2
    exact Option.some.inj (Eq.trans (Eq.symm h1) h2)
  subst hc
  exact kk q H1 hP1 hD1 hS1
end NIP
