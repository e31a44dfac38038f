def pfr (a : Nat → Nat) (cy : Nat → ClassId) (z : Nat → Fig) (k : Nat) : va_W := ((List.range 14).filter (fun i => decide (i ≠ k))).flatMap fun i => wFig (fun j => a (2 + 5 * i + j)) cy (z i)
theorem pf_split {a : Nat → Nat} {cy : Nat → ClassId} {z : Nat → Fig} {k : Nat} (hk : k < 14) : (wPF a cy z).Perm (wFig (fun j => a (2 + 5 * k + j)) cy (z k) ++ pfr a cy z k) := by
  have h : (List.range 14).Perm (k :: (List.range 14).filter (fun i => decide (i ≠ k))) := by
    rcases (by omega : k = 0 ∨ k = 1 ∨ k = 2 ∨ k = 3 ∨ k = 4 ∨ k = 5 ∨ k = 6 ∨ k = 7 ∨ k = 8 ∨ k = 9 ∨ k = 10 ∨ k = 11 ∨ k = 12 ∨ k = 13) with rfl | rfl | rfl | rfl | rfl | rfl | rfl | rfl | rfl | rfl | rfl | rfl | rfl | rfl
    all_goals exact List.isPerm_iff.mp (by decide)
  exact (h.flatMap_right _).trans (by rw [List.flatMap_cons]; exact List.Perm.refl _)
theorem pfr_upd {a : Nat → Nat} {cy : Nat → ClassId} {z : Nat → Fig} {k : Nat} (v : Fig) : pfr a cy (updF z k v) k = pfr a cy z k := by
  unfold pfr
  rw [List.flatMap_def, List.flatMap_def]
  refine congrArg _ (List.map_congr_left fun i hi => ?_)
  have h : i ≠ k := of_decide_eq_true (List.mem_filter.mp hi).2
  have e : updF z k v i = z i := if_neg h
  rw [e]
theorem perm_K1 {w1 wf r : va_W} {a : Nat → Nat} {cy : Nat → ClassId} {z : Nat → Fig} {k : Nat} (hk : k < 14) (h : w1.Perm (wf ++ r)) : (w1 ++ wPF a cy z).Perm ((wFig (fun j => a (2 + 5 * k + j)) cy (z k) ++ wf) ++ (r ++ pfr a cy z k)) := by
  refine (h.append (pf_split hk)).trans ?_
  rw [List.append_assoc, List.append_assoc]
  refine List.Perm.trans ?_ (List.perm_append_comm_assoc wf (wFig (fun j => a (2 + 5 * k + j)) cy (z k)) (r ++ pfr a cy z k))
  exact (List.perm_append_comm_assoc r (wFig (fun j => a (2 + 5 * k + j)) cy (z k)) (pfr a cy z k)).append_left wf
theorem perm_K1b {w1 wf r : va_W} {a : Nat → Nat} {cy : Nat → ClassId} {z : Nat → Fig} {k : Nat} {v : Fig} (hk : k < 14) (h : w1.Perm (wf ++ r)) : ((r ++ pfr a cy z k) ++ (wFig (fun j => a (2 + 5 * k + j)) cy v ++ wf)).Perm (w1 ++ wPF a cy (updF z k v)) := by
  have h1 := perm_K1 (a := a) (cy := cy) (z := updF z k v) hk h
  rw [pfr_upd, show updF z k v k = v from if_pos rfl] at h1
  exact List.perm_append_comm.trans h1.symm
theorem perm_K2 {w1 wf r : va_W} {a : Nat → Nat} {cy : Nat → ClassId} {z : Nat → Fig} {k : Nat} (hk : k < 14) (h : w1.Perm (wf ++ r)) : (w1 ++ wPF a cy z).Perm ((wf ++ wFig (fun j => a (2 + 5 * k + j)) cy (z k)) ++ (r ++ pfr a cy z k)) :=
  (perm_K1 hk h).trans (List.perm_append_comm.append_right _)
theorem perm_K2b {w1 wf r : va_W} {a : Nat → Nat} {cy : Nat → ClassId} {z : Nat → Fig} {k : Nat} (hk : k < 14) (h : w1.Perm (wf ++ r)) : ((r ++ pfr a cy z k) ++ (wf ++ wFig (fun j => a (2 + 5 * k + j)) cy (z k))).Perm (w1 ++ wPF a cy z) :=
  List.perm_append_comm.trans (perm_K2 hk h).symm
section PCALLS
variable {p : Program} {l : Launch} {e : Env} {R : Room} {s : State} {m : MethodId} {args : Array Value} {below : List Frame} {meth : Method} {cd : Code} {H : Heap} {locs : List Loc} {cells slots : Nat} {Q : State → Prop}
variable {pc : Nat} {ls : Array Slot} {rest st0 : List Value} {A0 : Nat → Prop} {H0 : Heap} {D : va_G} {tys : List (ClassId × FieldType)}
theorem cc_usep {a : Array Value} {wc wc' ws wr wn : va_W} {ret : Option Value} {mc ms : Nat} {st1 : List Value} {k1 k2 : Nat} (hs1 : ret.toList ++ rest = st1) (hk1 : cells + mc = k1) (hk2 : slots + ms = k2)
    (hr : va_Run p l e R s m args below meth cd H locs cells slots mc ms (F0 m pc ls st0) rest (CTq D wc' (va_A wc H.size) ret a) (va_A wc H.size))
    (hP : va_P D vwCl ws H) (hD : va_D A0 ws) (hS : va_S A0 H0 H locs) (hA : ∀ q, H0.size ≤ q → A0 q) (hp : ws.Perm (wc ++ wr)) (hpn : (wr ++ wc').Perm wn)
    (kk : ∀ (H1 : Heap) (locs1 : List Loc), va_P D vwCl wn H1 → va_D A0 wn → va_S A0 H0 H1 locs1 → W p l e R s m args below meth cd H1 locs1 k1 k2 Q (F0 m (pc + 3) ls st1)) :
    W p l e R s m args below meth cd H locs cells slots Q (F0 m pc ls st0) := by
  subst hs1 hk1 hk2
  have hF := va_freep hD hS hA hp
  intro T hT X
  obtain ⟨v, st₀, t, T', L, h0, X', hL, e1, e2, ⟨hv, hP1, hD1, hz, hk⟩, st⟩ := hr T hT X
  cases hv
  rw [h0] at hz hk
  rw [← e1] at hP1
  have hj0 := va_joinp (w1 := wc') hP hD hp (fun q h1 h2 => by rw [e1]; exact hk q h1 h2) hF hP1 hD1
  have hj := And.intro (hj0.1.perm hpn) (hj0.2.perm hpn)
  obtain ⟨t2, a1, b1⟩ := kk T'.heap (locs ++ L) hj.1 hj.2
    ⟨Nat.le_trans hS.1 (by rw [e1]; exact hz), fun q h1 h2 => by rw [e1, hk q (Nat.lt_of_lt_of_le h1 hS.1) (fun z => h2 (hF q z))]; exact hS.2.1 q h1 h2, fun q hq => by
      rcases List.mem_append.mp hq with h | h
      · exact hS.2.2 q h
      · exact hF _ (hL q h)⟩ T' rfl X'
  exact ⟨t2, st t2 a1, b1⟩
theorem cVp {y : MethodName} {c cc : ByteArray} {n nL k index ci q0 : Nat} {r : Option FieldType} {rm : Room} {av rest : List Value} {b : Nat} {fs : List Value} {wc wc' ws wr wn : va_W} {ret : Option Value} {own C : String} {qc : vw_C}
    (hx : p.tables.exec = Jvm.exec) (hb : cd.code = cc) (hml : cd.maxLocals = nL) (hown : s.vm.findClass own = some m.cls) (htg : ∀ w ∈ GW, w.before args s = true) (hN : NW s) (hK : va_K D vwCl tys s)
    (hM : CT l D tys y c n r rm (.ref b :: av) wc wc' ret)
    (hG : GoodIn GW (wsV own index C y (wsU y c n r)))
    (hd : y.cls = C ∧ y.cls ≠ "java/lang/invoke/MethodHandle" ∧ y.cls ≠ "java/lang/invoke/VarHandle" ∧ (parseMethodDescriptor y.desc).map (fun d => d.parameters.length) = some k) (hlen : av.length = k)
    (hR : (rm.frames + 1 ≤ R.frames ∧ 8 + (n + 11) + rm.locals ≤ R.locals) ∧ cells + rm.cells ≤ R.cells ∧ slots + rm.slots ≤ R.slots)
    (hP : va_P D vwCl ws H) (hD : va_D A0 ws) (hS : va_S A0 H0 H locs) (hA : ∀ q, H0.size ≤ q → A0 q)
    (hqc : vwCl[ci]? = some qc ∧ qc.1 = C) (hq : wc[q0]? = some (b, .inr (ci, fs)))
    (hp : ws.Perm (wc ++ wr)) (hpn : (wr ++ wc').Perm wn)
    (hsz : ls.size = nL) (hst : st0 = av.reverse ++ .ref b :: rest) (hW : (rest.map fun v => v.category).sum ≤ 8) {st1 : List Value} {k1 k2 : Nat} (hs1 : ret.toList ++ rest = st1) (hk1 : cells + rm.cells = k1) (hk2 : slots + rm.slots = k2) (hdg : decode cc pc = .ok (.invokevirtual index, 3))
    (kk : ∀ (H1 : Heap) (locs1 : List Loc), va_P D vwCl wn H1 → va_D A0 wn → va_S A0 H0 H1 locs1 → W p l e R s m args below meth cd H1 locs1 k1 k2 Q (F0 m (pc + 3) ls st1)) :
    W p l e R s m args below meth cd H locs cells slots Q (F0 m pc ls st0) := by
  have hPc := (hP.perm hp).left
  have hDc := (hD.perm hp).left
  exact cc_usep hs1 hk1 hk2 (va_runV (g := F0 m pc ls st0) (H := H) (locs := locs) (cells := cells) (slots := slots) (Ts := GW) (own := own) (C := C) (As := av) (rest := rest) (b := b) ⟨hx, hb, hml, hown, htg⟩ (hM H.size)
    (cwV k htg hG rfl rfl rfl hd hR.1) ⟨CTp.blind, by have h := va_recv hK hPc hqc.1 hq; rw [hqc.2] at h; exact h, fun U hU hW => ⟨rfl, by rw [hU], by rw [hU]; exact hPc, va_K.moved hW.alike hK, hDc.weaken (fun _ _ _ _ => trivial), hN.warm hW⟩⟩
    rfl hlen hsz hst (lv_room hW) hdg hR.2) hP hD hS hA hp hpn kk
theorem cSp {y : MethodName} {c cc : ByteArray} {n nL k index : Nat} {r : Option FieldType} {rm : Room} {av rest : List Value} {wc wc' ws wr wn : va_W} {ret : Option Value} {own : String}
    (hx : p.tables.exec = Jvm.exec) (hb : cd.code = cc) (hml : cd.maxLocals = nL) (hown : s.vm.findClass own = some m.cls) (htg : ∀ w ∈ GW, w.before args s = true) (hN : NW s) (hK : va_K D vwCl tys s)
    (hM : CT l D tys y c n r rm av wc wc' ret)
    (hG : (Cond.methodLink own index y ∈ GW) ∧ Cond.static y ∈ GW ∧ Cond.initialized y.cls ∈ GW ∧ GoodIn GW (wsU y c n r))
    (hd : y.cls ≠ "java/lang/invoke/MethodHandle" ∧ y.cls ≠ "java/lang/invoke/VarHandle" ∧ (parseMethodDescriptor y.desc).map (fun d => d.parameters.length) = some k) (hlen : av.length = k)
    (hR : (rm.frames + 1 ≤ R.frames ∧ 8 + (n + 11) + rm.locals ≤ R.locals) ∧ cells + rm.cells ≤ R.cells ∧ slots + rm.slots ≤ R.slots)
    (hP : va_P D vwCl ws H) (hD : va_D A0 ws) (hS : va_S A0 H0 H locs) (hA : ∀ q, H0.size ≤ q → A0 q)
    (hp : ws.Perm (wc ++ wr)) (hpn : (wr ++ wc').Perm wn)
    (hsz : ls.size = nL) (hst : st0 = av.reverse ++ rest) (hW : (rest.map fun v => v.category).sum ≤ 8) {st1 : List Value} {k1 k2 : Nat} (hs1 : ret.toList ++ rest = st1) (hk1 : cells + rm.cells = k1) (hk2 : slots + rm.slots = k2) (hdg : decode cc pc = .ok (.invokestatic index, 3))
    (kk : ∀ (H1 : Heap) (locs1 : List Loc), va_P D vwCl wn H1 → va_D A0 wn → va_S A0 H0 H1 locs1 → W p l e R s m args below meth cd H1 locs1 k1 k2 Q (F0 m (pc + 3) ls st1)) :
    W p l e R s m args below meth cd H locs cells slots Q (F0 m pc ls st0) := by
  have hPc := (hP.perm hp).left
  have hDc := (hD.perm hp).left
  exact cc_usep hs1 hk1 hk2 (va_runS (g := F0 m pc ls st0) (H := H) (locs := locs) (cells := cells) (slots := slots) (Ts := GW) (own := own) (As := av) (rest := rest) ⟨hx, hb, hml, hown, htg⟩ (hM H.size)
    ⟨callB_of k htg hG.2.2.2 rfl rfl rfl (htg _ hG.2.2.1) (htg _ hG.1) hd hR.1, htg _ hG.2.1⟩ ⟨CTp.blind, fun U hU hW => ⟨rfl, by rw [hU], by rw [hU]; exact hPc, va_K.moved hW.alike hK, hDc.weaken (fun _ _ _ _ => trivial), hN.warm hW⟩⟩
    rfl hlen hsz hst (lv_room hW) hdg hR.2) hP hD hS hA hp hpn kk
theorem cx_usep {a : Array Value} {wc wc' ws wr wn : va_W} {out : Sum Nat (Option Value)} {mc ms : Nat} {k1 k2 : Nat} (hk1 : cells + mc = k1) (hk2 : slots + ms = k2)
    (hr : vx_Run p l e R s m args below meth cd H locs cells slots mc ms (F0 m pc ls st0) rest (CTXq D wc' (va_A wc H.size) out a) (CTXx D wc' (va_A wc H.size) out) (va_A wc H.size))
    (hP : va_P D vwCl ws H) (hD : va_D A0 ws) (hS : va_S A0 H0 H locs) (hA : ∀ q, H0.size ≤ q → A0 q) (hp : ws.Perm (wc ++ wr)) (hpn : (wr ++ wc').Perm wn)
    (kk : ∀ (H1 : Heap) (locs1 : List Loc) (ret : Option Value), out = .inr ret → va_P D vwCl wn H1 → va_D A0 wn → va_S A0 H0 H1 locs1 → W p l e R s m args below meth cd H1 locs1 k1 k2 Q (F0 m (pc + 3) ls (ret.toList ++ rest)))
    (kx : ∀ (H1 : Heap) (locs1 : List Loc) (k : Nat) (q : Nat) (ce : Cell), out = .inl k → va_P D vwCl wn H1 → va_D A0 wn → va_S A0 H0 H1 locs1 → H1[q]? = some ce → ce.vm = .none → s.vm.findClass (exn k) = some ce.cls → vx_W p l e R s m args below meth cd H1 locs1 k1 k2 Q (F0 m pc ls rest) q) :
    W p l e R s m args below meth cd H locs cells slots Q (F0 m pc ls st0) := by
  subst hk1 hk2
  have hF := va_freep hD hS hA hp
  intro T hT X
  rcases hr T hT X with ⟨v, st₀, t, T', L, h0, X', hL, e1, e2, ⟨⟨ret, ho, hv⟩, hP1, hD1, hz, hk⟩, st⟩ | ⟨q, st₀, t, T', L, E, ce, h0, X', hL, e1, e2, ⟨⟨k, ho, hE⟩, hP1, hD1, hz, hk⟩, hce, hcv, hcl, st⟩
  · cases hv
    rw [h0] at hz hk
    rw [← e1] at hP1
    have hj0 := va_joinp (w1 := wc') hP hD hp (fun q h1 h2 => by rw [e1]; exact hk q h1 h2) hF hP1 hD1
    have hj := And.intro (hj0.1.perm hpn) (hj0.2.perm hpn)
    obtain ⟨t2, a1, b1⟩ := kk T'.heap (locs ++ L) _ ho hj.1 hj.2
      ⟨Nat.le_trans hS.1 (by rw [e1]; exact hz), fun q h1 h2 => by rw [e1, hk q (Nat.lt_of_lt_of_le h1 hS.1) (fun z => h2 (hF q z))]; exact hS.2.1 q h1 h2, fun q hq => by
        rcases List.mem_append.mp hq with h | h
        · exact hS.2.2 q h
        · exact hF _ (hL q h)⟩ T' rfl X'
    exact ⟨t2, st t2 a1, b1⟩
  · rw [h0] at hz hk
    rw [← e1] at hP1
    have hj0 := va_joinp (w1 := wc') hP hD hp (fun q h1 h2 => by rw [e1]; exact hk q h1 h2) hF hP1 hD1
    have hj := And.intro (hj0.1.perm hpn) (hj0.2.perm hpn)
    obtain ⟨t2, a1, b1⟩ := kx T'.heap (locs ++ L) k q ce ho hj.1 hj.2
      ⟨Nat.le_trans hS.1 (by rw [e1]; exact hz), fun q h1 h2 => by rw [e1, hk q (Nat.lt_of_lt_of_le h1 hS.1) (fun z => h2 (hF q z))]; exact hS.2.1 q h1 h2, fun q hq => by
        rcases List.mem_append.mp hq with h | h
        · exact hS.2.2 q h
        · exact hF _ (hL q h)⟩ (by rw [e1]; exact hce) hcv (by rw [← hE]; exact hcl) T' rfl X'
    exact ⟨t2, st.trans a1, b1⟩
theorem cXVp {y : MethodName} {c cc : ByteArray} {n nL k index ci q0 : Nat} {r : Option FieldType} {rm : Room} {av rest : List Value} {b : Nat} {fs : List Value} {wc wc' ws wr wn : va_W} {out : Sum Nat (Option Value)} {own C : String} {qc : vw_C}
    (hx : p.tables.exec = Jvm.exec) (hb : cd.code = cc) (hml : cd.maxLocals = nL) (hown : s.vm.findClass own = some m.cls) (htg : ∀ w ∈ GW, w.before args s = true) (hN : NW s) (hK : va_K D vwCl tys s) (hE : EX A0 s H0)
    (hM : CTX l D tys y c n r rm (.ref b :: av) wc wc' out)
    (hG : GoodIn GW (wsV own index C y (wsU y c n r)))
    (hd : y.cls = C ∧ y.cls ≠ "java/lang/invoke/MethodHandle" ∧ y.cls ≠ "java/lang/invoke/VarHandle" ∧ (parseMethodDescriptor y.desc).map (fun d => d.parameters.length) = some k) (hlen : av.length = k)
    (hR : (rm.frames + 1 ≤ R.frames ∧ 8 + (n + 11) + rm.locals ≤ R.locals) ∧ cells + rm.cells ≤ R.cells ∧ slots + rm.slots ≤ R.slots)
    (hP : va_P D vwCl ws H) (hD : va_D A0 ws) (hS : va_S A0 H0 H locs) (hA : ∀ q, H0.size ≤ q → A0 q)
    (hqc : vwCl[ci]? = some qc ∧ qc.1 = C) (hq : wc[q0]? = some (b, .inr (ci, fs)))
    (hp : ws.Perm (wc ++ wr)) (hpn : (wr ++ wc').Perm wn)
    (hsz : ls.size = nL) (hst : st0 = av.reverse ++ .ref b :: rest) (hW : (rest.map fun v => v.category).sum ≤ 8) {k1 k2 : Nat} (hk1 : cells + rm.cells = k1) (hk2 : slots + rm.slots = k2) (hdg : decode cc pc = .ok (.invokevirtual index, 3))
    (kk : ∀ (H1 : Heap) (locs1 : List Loc) (ret : Option Value), out = .inr ret → va_P D vwCl wn H1 → va_D A0 wn → va_S A0 H0 H1 locs1 → W p l e R s m args below meth cd H1 locs1 k1 k2 Q (F0 m (pc + 3) ls (ret.toList ++ rest)))
    (kx : ∀ (H1 : Heap) (locs1 : List Loc) (k : Nat) (q : Nat) (ce : Cell), out = .inl k → va_P D vwCl wn H1 → va_D A0 wn → va_S A0 H0 H1 locs1 → H1[q]? = some ce → ce.vm = .none → s.vm.findClass (exn k) = some ce.cls → vx_W p l e R s m args below meth cd H1 locs1 k1 k2 Q (F0 m pc ls rest) q) :
    W p l e R s m args below meth cd H locs cells slots Q (F0 m pc ls st0) := by
  have hPc := (hP.perm hp).left
  have hDc := (hD.perm hp).left
  exact cx_usep hk1 hk2 (vx_runV (g := F0 m pc ls st0) (H := H) (locs := locs) (cells := cells) (slots := slots) (Ts := GW) (own := own) (C := C) (As := av) (rest := rest) (b := b) ⟨hx, hb, hml, hown, htg⟩ (hM H.size)
    (cwV k htg hG rfl rfl rfl hd hR.1) ⟨CTXp.blind, by have h := va_recv hK hPc hqc.1 hq; rw [hqc.2] at h; exact h, fun U hU hW => ⟨rfl, by rw [hU], by rw [hU]; exact hPc, va_K.moved hW.alike hK, hDc.weaken (fun _ _ _ _ => trivial), hN.warm hW, by rw [hU]; exact hE.warm hW hS (va_freep hD hS hA hp)⟩⟩
    rfl hlen hsz hst (lv_room hW) hdg hR.2) hP hD hS hA hp hpn kk kx
theorem cXSp {y : MethodName} {c cc : ByteArray} {n nL k index : Nat} {r : Option FieldType} {rm : Room} {av rest : List Value} {wc wc' ws wr wn : va_W} {out : Sum Nat (Option Value)} {own : String}
    (hx : p.tables.exec = Jvm.exec) (hb : cd.code = cc) (hml : cd.maxLocals = nL) (hown : s.vm.findClass own = some m.cls) (htg : ∀ w ∈ GW, w.before args s = true) (hN : NW s) (hK : va_K D vwCl tys s) (hE : EX A0 s H0)
    (hM : CTX l D tys y c n r rm av wc wc' out)
    (hG : (Cond.methodLink own index y ∈ GW) ∧ Cond.static y ∈ GW ∧ Cond.initialized y.cls ∈ GW ∧ GoodIn GW (wsU y c n r))
    (hd : y.cls ≠ "java/lang/invoke/MethodHandle" ∧ y.cls ≠ "java/lang/invoke/VarHandle" ∧ (parseMethodDescriptor y.desc).map (fun d => d.parameters.length) = some k) (hlen : av.length = k)
    (hR : (rm.frames + 1 ≤ R.frames ∧ 8 + (n + 11) + rm.locals ≤ R.locals) ∧ cells + rm.cells ≤ R.cells ∧ slots + rm.slots ≤ R.slots)
    (hP : va_P D vwCl ws H) (hD : va_D A0 ws) (hS : va_S A0 H0 H locs) (hA : ∀ q, H0.size ≤ q → A0 q)
    (hp : ws.Perm (wc ++ wr)) (hpn : (wr ++ wc').Perm wn)
    (hsz : ls.size = nL) (hst : st0 = av.reverse ++ rest) (hW : (rest.map fun v => v.category).sum ≤ 8) {k1 k2 : Nat} (hk1 : cells + rm.cells = k1) (hk2 : slots + rm.slots = k2) (hdg : decode cc pc = .ok (.invokestatic index, 3))
    (kk : ∀ (H1 : Heap) (locs1 : List Loc) (ret : Option Value), out = .inr ret → va_P D vwCl wn H1 → va_D A0 wn → va_S A0 H0 H1 locs1 → W p l e R s m args below meth cd H1 locs1 k1 k2 Q (F0 m (pc + 3) ls (ret.toList ++ rest)))
    (kx : ∀ (H1 : Heap) (locs1 : List Loc) (k : Nat) (q : Nat) (ce : Cell), out = .inl k → va_P D vwCl wn H1 → va_D A0 wn → va_S A0 H0 H1 locs1 → H1[q]? = some ce → ce.vm = .none → s.vm.findClass (exn k) = some ce.cls → vx_W p l e R s m args below meth cd H1 locs1 k1 k2 Q (F0 m pc ls rest) q) :
    W p l e R s m args below meth cd H locs cells slots Q (F0 m pc ls st0) := by
  have hPc := (hP.perm hp).left
  have hDc := (hD.perm hp).left
  exact cx_usep hk1 hk2 (vx_runS (g := F0 m pc ls st0) (H := H) (locs := locs) (cells := cells) (slots := slots) (Ts := GW) (own := own) (As := av) (rest := rest) ⟨hx, hb, hml, hown, htg⟩ (hM H.size)
    ⟨callB_of k htg hG.2.2.2 rfl rfl rfl (htg _ hG.2.2.1) (htg _ hG.1) hd hR.1, htg _ hG.2.1⟩ ⟨CTXp.blind, fun U hU hW => ⟨rfl, by rw [hU], by rw [hU]; exact hPc, va_K.moved hW.alike hK, hDc.weaken (fun _ _ _ _ => trivial), hN.warm hW, by rw [hU]; exact hE.warm hW hS (va_freep hD hS hA hp)⟩⟩
    rfl hlen hsz hst (lv_room hW) hdg hR.2) hP hD hS hA hp hpn kk kx
end PCALLS
