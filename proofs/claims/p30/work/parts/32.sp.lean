abbrev wSPo (x : Nat → Nat) : va_W := [(x 0, .inr (3, [.ref (x 1), .ref (x 6), .ref (x 11), .ref (x 83), .ref (x 94), .ref (x 95), .ref (x 97)]))]
abbrev wBA (a : Nat) (cy : Nat → ClassId) (f : Nat → Int32) : va_W := [(a, .inl (cy 1, 2, .inl f))]
abbrev wSlots (a : Nat → Nat) (cy : Nat → ClassId) (z : Nat → Fig) : va_W := [(a 0, .inl (cy 3, 2, .inr (.inr (.inr (.inr (fun j => some (a (1 + 5 * j))))))))] ++ wFig (fun j => a (1 + j)) cy (z 0) ++ wFig (fun j => a (6 + j)) cy (z 1)
def rdx (n : Nat) (i : Int32) : Option Nat := if i < 0 ∨ n ≤ i.toNatClampNeg then none else some i.toNatClampNeg
theorem rdx_in {n : Nat} {i : Int32} {k : Nat} (h : rdx n i = some k) : vp_in i n ∧ i.toNatClampNeg = k ∧ k < n := by
  unfold rdx at h
  by_cases hc : i < 0 ∨ n ≤ i.toNatClampNeg
  · rw [if_pos hc] at h; cases h
  · rw [if_neg hc] at h
    obtain rfl := Option.some.inj h
    exact ⟨hc, rfl, Nat.lt_of_not_le (fun q => hc (Or.inr q))⟩
def oI (r : Sum Nat Int32) : Sum Nat (Option Value) := match r with
  | .inl k => .inl k
  | .inr v => .inr (some (.int v))
def oU (r : Sum Nat Unit) : Sum Nat (Option Value) := match r with
  | .inl k => .inl k
  | .inr _ => .inr none
theorem x_aldq {p : Program} {l : Launch} {e : Env} {R : Room} {s : State} {m : MethodId} {args : Array Value} {below : List Frame} {meth : Method} {c : Code} {H : Heap} {locs : List Loc} {cells slots : Nat} {Q : State → Prop} {cc : ByteArray} {pc : Nat} {ls : Array Slot} {rest : List Value} {D : va_G} {cl : List vw_C} {ws : va_W} {tys : List (ClassId × FieldType)} {a : Nat} {cA : ClassId} {n k : Nat} {C : String} {f : Nat → Option Nat} {i : Int32} {v : Value}
    (hx : p.tables.exec = Jvm.exec) (hb : c.code = cc) (hK : va_K D cl tys s) (hP : va_P D cl ws H) (q0 t0 : Nat) (ha : ws[q0]? = some (a, .inl (cA, n, .inr (.inr (.inr (.inr f)))))) (ht : tys[t0]? = some (cA, .object C)) (hr : rdx n i = some k) (hv : va_rf (f k) = v) (hdg : decode cc pc = .ok (.aaload, 1))
    (kk : W p l e R s m args below meth c H locs cells slots Q (F0 m (pc + 1) ls (v :: rest))) : W p l e R s m args below meth c H locs cells slots Q (F0 m pc ls (.int i :: .ref a :: rest)) := by
  obtain ⟨hin, rfl, hlt⟩ := rdx_in hr
  subst hv
  exact va_aldq hx hb hK hP q0 t0 ha ht hin hdg kk
