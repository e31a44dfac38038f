/-! the law: its world, its cases -/
abbrev LWd (x a : Nat → Nat) (o : Nat) (cy : Nat → ClassId) (F D : Fig) (P : PastS) (SL : Nat → Fig) (SV : Nat → Int32) (T : TextS) (WY : Nat → Int32) (md : Mod) (g : Nat → Int64) : va_W :=
  wLA o cy g ++ (wSPo x ++ (wFig (fun j => x (1 + j)) cy F ++ (wFig (fun j => x (6 + j)) cy D ++ (wP2 (fun j => x (11 + j)) cy P ++ (wPF (fun j => x (11 + j)) cy (p_figs P) ++ (wSlots (fun j => x (83 + j)) cy SL ++ (wBA (x 94) cy SV ++ (wText (fun j => x (95 + j)) cy T ++ (wIA (x 97) cy 100 WY ++ (wMod a cy md))))))))))
/-- behind a call: the loop goes on -/
def LK (p : Program) (l : Launch) (e : Env) (s : State) (m : MethodId) (below : List Frame) (meth : Method) (c : Code) (D0 : va_G) (cy : Nat → ClassId) (b i : Nat) (x a : Nat → Nat) (o k1 k2 : Nat) (Q : State → Prop) : Prop :=
  ∀ (F D : Fig) (P : PastS) (SL : Nat → Fig) (SV : Nat → Int32) (T : TextS) (WY : Nat → Int32) (md : Mod) (g : Nat → Int64) (H : Heap) (locs : List Loc) (ls : Array Slot), IW F P SL SV T md → va_P D0 vwCl (LWd x a o cy F D P SL SV T WY md g) H → va_D (fun q : Nat => s.heap.size ≤ q) (LWd x a o cy F D P SL SV T WY md g) → va_S (fun q : Nat => s.heap.size ≤ q) s.heap H locs →
    lv_has ls 7 [(0, .ref b), (1, .ref (x 0)), (2, .ref (a 0)), (3, .ref o), (4, .int (nI i))] → W p l e room_1 s m #[Value.ref b] below meth c H locs (k1 + 4) (k2 + 24) Q (F0 m 1741 ls [])
theorem nI_ad (i k : Nat) : nI i + nI k = nI (i + k) := (Int32.ofNat_add i k).symm
theorem lw_in5 {L i : Nat} (hL : L ≤ 2560) (hi : i + 5 ≤ L) : vp_in (nI i + 1) L ∧ vp_in (nI i + 2) L ∧ vp_in (nI i + 3) L ∧ vp_in (nI i + 4) L := by
  refine ⟨?_, ?_, ?_, ?_⟩
  · rw [show (1 : Int32) = nI 1 from rfl, nI_ad]
    exact vp_in_nI (by omega) (by omega)
  · rw [show (2 : Int32) = nI 2 from rfl, nI_ad]
    exact vp_in_nI (by omega) (by omega)
  · rw [show (3 : Int32) = nI 3 from rfl, nI_ad]
    exact vp_in_nI (by omega) (by omega)
  · rw [show (4 : Int32) = nI 4 from rfl, nI_ad]
    exact vp_in_nI (by omega) (by omega)
theorem AN.k {a : Sum Nat Int32} {v t : Int32} {k1 k2 k : Nat} (h : AN a v t k1 k2) (e : a = .inl k) : k = k1 ∨ k = k2 := by
  rcases h with ⟨h, -⟩ | ⟨h, -⟩ | ⟨h, -⟩
  · rw [h] at e; cases e
  · rw [h] at e; exact Or.inl (Sum.inl.inj e).symm
  · rw [h] at e; exact Or.inr (Sum.inl.inj e).symm
theorem AN.t {a : Sum Nat Int32} {v t : Int32} {k1 k2 : Nat} (h : AN a v t k1 k2) (ne : k2 ≠ k1 := by decide) : t = lk k1 a := by
  rcases h with ⟨h, q⟩ | ⟨h, -, q⟩ | ⟨h, -, q⟩
  · rw [h, q]; rfl
  · rw [h, q]; exact (if_pos rfl).symm
  · rw [h, q]; exact (if_neg ne).symm
theorem AN.lo {a : Sum Nat Int32} {v t : Int32} {k1 k2 : Nat} {g : Nat → Int64} (h : AN a v t k1 k2) (z : lk k1 a = 0) : lo g a (0 : Int32).toNatClampNeg = v.toInt64 := by
  rcases h with ⟨h, q⟩ | ⟨h, -, q⟩ | ⟨h, -, q⟩
  · rw [h]
    show vp_updL g (0 : Int32).toNatClampNeg v.toInt64 (0 : Int32).toNatClampNeg = _
    unfold vp_updL
    rw [if_pos rfl]
  · rw [h] at z
    have z : (if k1 = k1 then (1 : Int32) else 2) = 0 := z
    rw [if_pos rfl] at z
    exact absurd z (by decide)
  · rw [h] at z
    have z : (if k2 = k1 then (1 : Int32) else 2) = 0 := z
    by_cases c : k2 = k1
    · rw [if_pos c] at z; exact absurd z (by decide)
    · rw [if_neg c] at z; exact absurd z (by decide)
theorem A1.k {a : Sum Nat Int32} {v t : Int32} {k1 k : Nat} (h : (a = .inr v ∧ t = 0) ∨ (a = .inl k1 ∧ v = 0 ∧ t = 1)) (e : a = .inl k) : k = k1 := by
  rcases h with ⟨h, -⟩ | ⟨h, -⟩
  · rw [h] at e; cases e
  · rw [h] at e; exact (Sum.inl.inj e).symm
theorem A1.t {a : Sum Nat Int32} {v t : Int32} {k1 : Nat} (h : (a = .inr v ∧ t = 0) ∨ (a = .inl k1 ∧ v = 0 ∧ t = 1)) : t = lk k1 a := by
  rcases h with ⟨h, q⟩ | ⟨h, -, q⟩
  · rw [h, q]; rfl
  · rw [h, q]; exact (if_pos rfl).symm
theorem A1.lo {a : Sum Nat Int32} {v t : Int32} {k1 : Nat} {g : Nat → Int64} (h : (a = .inr v ∧ t = 0) ∨ (a = .inl k1 ∧ v = 0 ∧ t = 1)) (z : lk k1 a = 0) : lo g a (0 : Int32).toNatClampNeg = v.toInt64 := by
  rcases h with ⟨h, q⟩ | ⟨h, -, q⟩
  · rw [h]
    show vp_updL g (0 : Int32).toNatClampNeg v.toInt64 (0 : Int32).toNatClampNeg = _
    unfold vp_updL
    rw [if_pos rfl]
  · rw [h] at z
    have z : (if k1 = k1 then (1 : Int32) else 2) = 0 := z
    rw [if_pos rfl] at z
    exact absurd z (by decide)
theorem A1.loS {a : Sum Nat Int32} {v t : Int32} {k1 : Nat} {g : Nat → Int64} {u : Int64} (h : (a = .inr v ∧ t = 0) ∨ (a = .inl k1 ∧ v = 0 ∧ t = 1)) (z : lk k1 a = 0) (hu : (v = 0 ∧ u = 0) ∨ (¬ v = 0 ∧ u = 1)) : loS g a (0 : Int32).toNatClampNeg = u := by
  rcases h with ⟨h, q⟩ | ⟨h, -, q⟩
  · rw [h]
    show vp_updL g (0 : Int32).toNatClampNeg (if v = 0 then 0 else 1) (0 : Int32).toNatClampNeg = _
    unfold vp_updL
    rw [if_pos rfl]
    rcases hu with ⟨c, e⟩ | ⟨c, e⟩
    · rw [if_pos c, e]
    · rw [if_neg c, e]
  · rw [h] at z
    have z : (if k1 = k1 then (1 : Int32) else 2) = 0 := z
    rw [if_pos rfl] at z
    exact absurd z (by decide)
theorem pm_stL (la s f d p q sl ba t ia mo : va_W) : (la ++ (s ++ (f ++ (d ++ (p ++ (q ++ (sl ++ (ba ++ (t ++ (ia ++ (mo))))))))))).Perm ((la ++ (s ++ t)) ++ (f ++ (d ++ (p ++ (q ++ (sl ++ (ba ++ (ia ++ (mo))))))))) := perm_sum (fun z hz => by simp only [hz]; omega)
theorem pn_stL (la s f d p q sl ba t ia mo : va_W) : ((f ++ (d ++ (p ++ (q ++ (sl ++ (ba ++ (ia ++ (mo)))))))) ++ (la ++ (s ++ t))).Perm (la ++ (s ++ (f ++ (d ++ (p ++ (q ++ (sl ++ (ba ++ (t ++ (ia ++ (mo))))))))))) := perm_sum (fun z hz => by simp only [hz]; omega)
theorem pm_mo (la s f d p q sl ba t ia mo : va_W) : (la ++ (s ++ (f ++ (d ++ (p ++ (q ++ (sl ++ (ba ++ (t ++ (ia ++ (mo))))))))))).Perm ((mo) ++ (la ++ (s ++ (f ++ (d ++ (p ++ (q ++ (sl ++ (ba ++ (t ++ (ia))))))))))) := perm_sum (fun z hz => by simp only [hz]; omega)
theorem pn_mo (la s f d p q sl ba t ia mo : va_W) : ((la ++ (s ++ (f ++ (d ++ (p ++ (q ++ (sl ++ (ba ++ (t ++ (ia)))))))))) ++ (mo)).Perm (la ++ (s ++ (f ++ (d ++ (p ++ (q ++ (sl ++ (ba ++ (t ++ (ia ++ (mo))))))))))) := perm_sum (fun z hz => by simp only [hz]; omega)
theorem pm_st (la s f d p q sl ba t ia mo : va_W) : (la ++ (s ++ (f ++ (d ++ (p ++ (q ++ (sl ++ (ba ++ (t ++ (ia ++ (mo))))))))))).Perm ((s ++ t) ++ (la ++ (f ++ (d ++ (p ++ (q ++ (sl ++ (ba ++ (ia ++ (mo)))))))))) := perm_sum (fun z hz => by simp only [hz]; omega)
theorem pn_st (la s f d p q sl ba t ia mo : va_W) : ((la ++ (f ++ (d ++ (p ++ (q ++ (sl ++ (ba ++ (ia ++ (mo))))))))) ++ (s ++ t)).Perm (la ++ (s ++ (f ++ (d ++ (p ++ (q ++ (sl ++ (ba ++ (t ++ (ia ++ (mo))))))))))) := perm_sum (fun z hz => by simp only [hz]; omega)
theorem pm_sdt (la s f d p q sl ba t ia mo : va_W) : (la ++ (s ++ (f ++ (d ++ (p ++ (q ++ (sl ++ (ba ++ (t ++ (ia ++ (mo))))))))))).Perm ((s ++ d ++ t) ++ (la ++ (f ++ (p ++ (q ++ (sl ++ (ba ++ (ia ++ (mo))))))))) := perm_sum (fun z hz => by simp only [hz]; omega)
theorem pn_sdt (la s f d p q sl ba t ia mo : va_W) : ((la ++ (f ++ (p ++ (q ++ (sl ++ (ba ++ (ia ++ (mo)))))))) ++ (s ++ d ++ t)).Perm (la ++ (s ++ (f ++ (d ++ (p ++ (q ++ (sl ++ (ba ++ (t ++ (ia ++ (mo))))))))))) := perm_sum (fun z hz => by simp only [hz]; omega)
theorem pm_sfdpbatqL (la s f d p q sl ba t ia mo : va_W) : (la ++ (s ++ (f ++ (d ++ (p ++ (q ++ (sl ++ (ba ++ (t ++ (ia ++ (mo))))))))))).Perm ((la ++ (s ++ f ++ d ++ p ++ ba ++ t ++ q)) ++ (sl ++ (ia ++ (mo)))) := perm_sum (fun z hz => by simp only [hz]; omega)
theorem pn_sfdpbatqL (la s f d p q sl ba t ia mo : va_W) : ((sl ++ (ia ++ (mo))) ++ (la ++ (s ++ f ++ d ++ p ++ ba ++ t ++ q))).Perm (la ++ (s ++ (f ++ (d ++ (p ++ (q ++ (sl ++ (ba ++ (t ++ (ia ++ (mo))))))))))) := perm_sum (fun z hz => by simp only [hz]; omega)
theorem pm_sfL (la s f d p q sl ba t ia mo : va_W) : (la ++ (s ++ (f ++ (d ++ (p ++ (q ++ (sl ++ (ba ++ (t ++ (ia ++ (mo))))))))))).Perm ((la ++ (s ++ f)) ++ (d ++ (p ++ (q ++ (sl ++ (ba ++ (t ++ (ia ++ (mo))))))))) := perm_sum (fun z hz => by simp only [hz]; omega)
theorem pn_sfL (la s f d p q sl ba t ia mo : va_W) : ((d ++ (p ++ (q ++ (sl ++ (ba ++ (t ++ (ia ++ (mo)))))))) ++ (la ++ (s ++ f))).Perm (la ++ (s ++ (f ++ (d ++ (p ++ (q ++ (sl ++ (ba ++ (t ++ (ia ++ (mo))))))))))) := perm_sum (fun z hz => by simp only [hz]; omega)
theorem pm_sfdpqL (la s f d p q sl ba t ia mo : va_W) : (la ++ (s ++ (f ++ (d ++ (p ++ (q ++ (sl ++ (ba ++ (t ++ (ia ++ (mo))))))))))).Perm ((la ++ (s ++ f ++ d ++ p ++ q)) ++ (sl ++ (ba ++ (t ++ (ia ++ (mo)))))) := perm_sum (fun z hz => by simp only [hz]; omega)
theorem pn_sfdpqL (la s f d p q sl ba t ia mo : va_W) : ((sl ++ (ba ++ (t ++ (ia ++ (mo))))) ++ (la ++ (s ++ f ++ d ++ p ++ q))).Perm (la ++ (s ++ (f ++ (d ++ (p ++ (q ++ (sl ++ (ba ++ (t ++ (ia ++ (mo))))))))))) := perm_sum (fun z hz => by simp only [hz]; omega)
theorem pm_sfdpq (la s f d p q sl ba t ia mo : va_W) : (la ++ (s ++ (f ++ (d ++ (p ++ (q ++ (sl ++ (ba ++ (t ++ (ia ++ (mo))))))))))).Perm ((s ++ f ++ d ++ p ++ q) ++ (la ++ (sl ++ (ba ++ (t ++ (ia ++ (mo))))))) := perm_sum (fun z hz => by simp only [hz]; omega)
theorem pn_sfdpq (la s f d p q sl ba t ia mo : va_W) : ((la ++ (sl ++ (ba ++ (t ++ (ia ++ (mo)))))) ++ (s ++ f ++ d ++ p ++ q)).Perm (la ++ (s ++ (f ++ (d ++ (p ++ (q ++ (sl ++ (ba ++ (t ++ (ia ++ (mo))))))))))) := perm_sum (fun z hz => by simp only [hz]; omega)
theorem pm_sfpqL (la s f d p q sl ba t ia mo : va_W) : (la ++ (s ++ (f ++ (d ++ (p ++ (q ++ (sl ++ (ba ++ (t ++ (ia ++ (mo))))))))))).Perm ((la ++ (s ++ f ++ p ++ q)) ++ (d ++ (sl ++ (ba ++ (t ++ (ia ++ (mo))))))) := perm_sum (fun z hz => by simp only [hz]; omega)
theorem pn_sfpqL (la s f d p q sl ba t ia mo : va_W) : ((d ++ (sl ++ (ba ++ (t ++ (ia ++ (mo)))))) ++ (la ++ (s ++ f ++ p ++ q))).Perm (la ++ (s ++ (f ++ (d ++ (p ++ (q ++ (sl ++ (ba ++ (t ++ (ia ++ (mo))))))))))) := perm_sum (fun z hz => by simp only [hz]; omega)
theorem pm_sfdL (la s f d p q sl ba t ia mo : va_W) : (la ++ (s ++ (f ++ (d ++ (p ++ (q ++ (sl ++ (ba ++ (t ++ (ia ++ (mo))))))))))).Perm ((la ++ (s ++ f ++ d)) ++ (p ++ (q ++ (sl ++ (ba ++ (t ++ (ia ++ (mo)))))))) := perm_sum (fun z hz => by simp only [hz]; omega)
theorem pn_sfdL (la s f d p q sl ba t ia mo : va_W) : ((p ++ (q ++ (sl ++ (ba ++ (t ++ (ia ++ (mo))))))) ++ (la ++ (s ++ f ++ d))).Perm (la ++ (s ++ (f ++ (d ++ (p ++ (q ++ (sl ++ (ba ++ (t ++ (ia ++ (mo))))))))))) := perm_sum (fun z hz => by simp only [hz]; omega)
theorem pm_sfd (la s f d p q sl ba t ia mo : va_W) : (la ++ (s ++ (f ++ (d ++ (p ++ (q ++ (sl ++ (ba ++ (t ++ (ia ++ (mo))))))))))).Perm ((s ++ f ++ d) ++ (la ++ (p ++ (q ++ (sl ++ (ba ++ (t ++ (ia ++ (mo))))))))) := perm_sum (fun z hz => by simp only [hz]; omega)
theorem pn_sfd (la s f d p q sl ba t ia mo : va_W) : ((la ++ (p ++ (q ++ (sl ++ (ba ++ (t ++ (ia ++ (mo)))))))) ++ (s ++ f ++ d)).Perm (la ++ (s ++ (f ++ (d ++ (p ++ (q ++ (sl ++ (ba ++ (t ++ (ia ++ (mo))))))))))) := perm_sum (fun z hz => by simp only [hz]; omega)
theorem pm_sfia (la s f d p q sl ba t ia mo : va_W) : (la ++ (s ++ (f ++ (d ++ (p ++ (q ++ (sl ++ (ba ++ (t ++ (ia ++ (mo))))))))))).Perm ((s ++ f ++ ia) ++ (la ++ (d ++ (p ++ (q ++ (sl ++ (ba ++ (t ++ (mo))))))))) := perm_sum (fun z hz => by simp only [hz]; omega)
theorem pn_sfia (la s f d p q sl ba t ia mo : va_W) : ((la ++ (d ++ (p ++ (q ++ (sl ++ (ba ++ (t ++ (mo)))))))) ++ (s ++ f ++ ia)).Perm (la ++ (s ++ (f ++ (d ++ (p ++ (q ++ (sl ++ (ba ++ (t ++ (ia ++ (mo))))))))))) := perm_sum (fun z hz => by simp only [hz]; omega)
theorem pm_sfslbaL (la s f d p q sl ba t ia mo : va_W) : (la ++ (s ++ (f ++ (d ++ (p ++ (q ++ (sl ++ (ba ++ (t ++ (ia ++ (mo))))))))))).Perm ((la ++ (s ++ f ++ sl ++ ba)) ++ (d ++ (p ++ (q ++ (t ++ (ia ++ (mo))))))) := perm_sum (fun z hz => by simp only [hz]; omega)
theorem pn_sfslbaL (la s f d p q sl ba t ia mo : va_W) : ((d ++ (p ++ (q ++ (t ++ (ia ++ (mo)))))) ++ (la ++ (s ++ f ++ sl ++ ba))).Perm (la ++ (s ++ (f ++ (d ++ (p ++ (q ++ (sl ++ (ba ++ (t ++ (ia ++ (mo))))))))))) := perm_sum (fun z hz => by simp only [hz]; omega)
theorem pm_sfpslbaqL (la s f d p q sl ba t ia mo : va_W) : (la ++ (s ++ (f ++ (d ++ (p ++ (q ++ (sl ++ (ba ++ (t ++ (ia ++ (mo))))))))))).Perm ((la ++ (s ++ f ++ p ++ sl ++ ba ++ q)) ++ (d ++ (t ++ (ia ++ (mo))))) := perm_sum (fun z hz => by simp only [hz]; omega)
theorem pn_sfpslbaqL (la s f d p q sl ba t ia mo : va_W) : ((d ++ (t ++ (ia ++ (mo)))) ++ (la ++ (s ++ f ++ p ++ sl ++ ba ++ q))).Perm (la ++ (s ++ (f ++ (d ++ (p ++ (q ++ (sl ++ (ba ++ (t ++ (ia ++ (mo))))))))))) := perm_sum (fun z hz => by simp only [hz]; omega)
set_option maxHeartbeats 4000000 in
set_option maxRecDepth 100000 in
theorem law_append {p : Program} {l : Launch} {e : Env} {s : State} {m : MethodId} {below : List Frame} {meth : Method} {c : Code} {dC : Nat → ClassId} {dI : Nat → Nat → Nat} {cy : Nat → ClassId} {b L : Nat} {xs : Nat → Int32} (hL : L ≤ 2560) (C0 : lw_At p s m meth c b L xs) (hlt : l.stackTraces = false) (hN : NW s) (hC : NC s) (hE : EX (fun q : Nat => s.heap.size ≤ q) s s.heap) (hK : va_K (dC, dI) vwCl (TY cy) s) {i : Nat} (hi : i + 5 ≤ L)
    {x a : Nat → Nat} {o : Nat} {F D : Fig} {P : PastS} {SL : Nat → Fig} {SV : Nat → Int32} {T : TextS} {WY : Nat → Int32} {md : Mod} {g : Nat → Int64} (iw : IW F P SL SV T md) {H : Heap} {locs : List Loc} {k1 k2 : Nat} (hr1 : k1 + 4 ≤ 601024) (hr2 : k2 + 24 ≤ 7293034)
    (hP : va_P (dC, dI) vwCl (LWd x a o cy F D P SL SV T WY md g) H) (hD : va_D (fun q : Nat => s.heap.size ≤ q) (LWd x a o cy F D P SL SV T WY md g)) (hS : va_S (fun q : Nat => s.heap.size ≤ q) s.heap H locs) {ls : Array Slot} (hl : lv_has ls 7 [(0, .ref b), (1, .ref (x 0)), (2, .ref (a 0)), (3, .ref o), (4, .int (nI i))]) {Q : State → Prop}
    (K : LK p l e s m below meth c (dC, dI) cy b i x a o k1 k2 Q) : W p l e room_1 s m #[Value.ref b] below meth c H locs k1 k2 Q (F0 m 160 ls []) := by
  obtain ⟨hx, hb, hr, hml, hown, hts, hX, hbl, hlocks, hgv⟩ := C0
  have htg : ∀ w ∈ GW, w.before #[Value.ref b] s = true := fun w hw => hts w (List.mem_filter.mp hw).1
  have hA : ∀ q : Nat, s.heap.size ≤ q → (fun q : Nat => s.heap.size ≤ q) q := fun _ h => h
  have hbA : ¬ (fun q : Nat => s.heap.size ≤ q) b := Nat.not_le.mpr hbl
  obtain ⟨hv1, hv2, hv3, hv4⟩ := lw_in5 hL hi
  obtain ⟨a1, T', v, m', e1, e2, iw', an⟩ := o_append iw (xs (nI i + 1).toNatClampNeg)
  refine lv_aload_n hx hb dL_law_160 rfl (lv_at hl 1 rfl) ?_
  refine lv_aload_n hx hb dL_law_161 rfl (lv_at hl 0 rfl) ?_
  refine lv_iload hx hb dL_law_162 (lv_at hl 4 rfl) ?_
  refine lv_iconst (v := 1) hx hb dL_law_164 (by decide) ?_
  refine lv_iadd hx hb dL_law_165 ?_
  refine va_sld hx hb hX hbl hbA hS hv1 dL_law_166 ?_
  refine lv_aload_n hx hb dL_law_167 rfl (lv_at hl 3 rfl) ?_
  have hk : ∀ k, a1 = .inl k → k = 2 ∨ k = 3 := fun k hq => AN.k an hq
  refine cLW (av := [.ref (x 0), .int (xs (nI i + 1).toNatClampNeg), .ref o]) (rest := []) (st1 := [.int (lk 2 a1)]) (ret := some (.int (lk 2 a1))) (wn := LWd x a o cy F D P SL SV T' WY md (lo g a1)) hx hb hml hown htg hN hK hE hC (c_L_append l dC dI cy hlt x T (xs (nI i + 1).toNatClampNeg) (a1, T') e1 o g hk) ⟨gw424, gw425, gw58, cw_append⟩ hdL_append rfl ⟨⟨Nat.le_of_ble_eq_true rfl, Nat.le_of_ble_eq_true rfl⟩, (show k1 + 1 ≤ 601024 by omega), (show k2 + 6 ≤ 7293034 by omega)⟩ hP hD hS hA (pm_stL _ _ _ _ _ _ _ _ _ _ _) (pn_stL _ _ _ _ _ _ _ _ _ _ _) hl.1 rfl (Nat.le_of_ble_eq_true rfl) rfl dL_law_168 (fun H locs hP hD hS => ?_)
  refine W.eq (g2 := F0 m 171 ls [.int (lk 2 a1)]) rfl ?_
  refine lv_istore (lv' := [(5, .int (lk 2 a1)), (0, .ref b), (1, .ref (x 0)), (2, .ref (a 0)), (3, .ref o), (4, .int (nI i))]) hx hb dL_law_171 hl (by decide) rfl (fun ls hl => ?_)
  refine lv_aload_n hx hb dL_law_173 rfl (lv_at hl 3 rfl) ?_
  refine lv_aload_n hx hb dL_law_174 rfl (lv_at hl 1 rfl) ?_
  refine lv_iload hx hb dL_law_175 (lv_at hl 5 rfl) ?_
  refine lv_iconst (v := 1) hx hb dL_law_177 (by decide) ?_
  refine lv_iadd hx hb dL_law_178 ?_
  refine va_sld hx hb hX hbl hbA hS hv1 dL_law_179 ?_
  refine cVp (av := [.int (xs (nI i + 1).toNatClampNeg)]) (rest := []) (st1 := [.int v]) (k1 := k1 + 1) (k2 := k2 + 6) (wn := LWd x a o cy F D P SL SV T' WY m' (lo g a1)) (ci := 4) (q0 := 0) hx hb hml hown htg hN hK (c_X9_append l dC dI cy a md (xs (nI i + 1).toNatClampNeg) (v, m') e2) (g_V gw909 gw910 gw911 gw63 gw912) hdV_X9_append rfl ⟨⟨Nat.le_of_ble_eq_true rfl, Nat.le_of_ble_eq_true rfl⟩, (show k1 + 1 ≤ 601024 by omega), (show k2 + 6 ≤ 7293034 by omega)⟩ hP hD hS hA ⟨rfl, rfl⟩ rfl (pm_mo _ _ _ _ _ _ _ _ _ _ _) (pn_mo _ _ _ _ _ _ _ _ _ _ _) hl.1 rfl (Nat.le_of_ble_eq_true rfl) rfl rfl rfl dL_law_180 (fun H locs hP hD hS => ?_)
  refine lv_istore (lv' := [(6, .int v), (5, .int (lk 2 a1)), (0, .ref b), (1, .ref (x 0)), (2, .ref (a 0)), (3, .ref o), (4, .int (nI i))]) hx hb dL_law_183 hl (by decide) rfl (fun ls hl => ?_)
  refine lv_aload_n hx hb dL_law_185 rfl (lv_at hl 4 rfl) ?_
  refine cVp (av := []) (rest := []) (st1 := [.int (m_thrown m')]) (k1 := k1 + 1) (k2 := k2 + 6) (wn := LWd x a o cy F D P SL SV T' WY m' (lo g a1)) (ci := 4) (q0 := 0) hx hb hml hown htg hN hK (c_X9_thrown l dC dI cy a m' (m_thrown m') rfl) (g_V gw905 gw906 gw907 gw63 gw908) hdV_X9_thrown rfl ⟨⟨Nat.le_of_ble_eq_true rfl, Nat.le_of_ble_eq_true rfl⟩, (show k1 + 1 ≤ 601024 by omega), (show k2 + 6 ≤ 7293034 by omega)⟩ hP hD hS hA ⟨rfl, rfl⟩ rfl (pm_mo _ _ _ _ _ _ _ _ _ _ _) (pn_mo _ _ _ _ _ _ _ _ _ _ _) hl.1 rfl (Nat.le_of_ble_eq_true rfl) rfl rfl rfl dL_law_186 (fun H locs hP hD hS => ?_)
  refine lv_iload hx hb dL_law_189 (lv_at hl 1 rfl) ?_
  refine lv_icmp_eq (tgt := 196) hx hb dL_law_191 (by decide) (fun _ => ?_) (fun z => absurd (AN.t an) z)
  refine lv_iload hx hb dL_law_196 (lv_at hl 1 rfl) ?_
  have fin : W p l e room_1 s m #[Value.ref b] below meth c H locs (k1 + 1) (k2 + 6) Q (F0 m 213 ls []) := by
    refine lv_goto (tgt := 1741) hx hb dL_law_213 (by decide) ?_
    refine W.widen (k := k1 + 4) (n := k2 + 24) (by omega) (by omega) ?_
    exact K _ _ _ _ _ _ _ _ _ H locs ls iw' hP hD hS (lv_sub hl [2, 3, 4, 5, 6] rfl)
  refine lv_if_ne (tgt := 213) hx hb dL_law_198 (by decide) (fun _ => fin) (fun z0 => ?_)
  refine lv_aload_n hx hb dL_law_201 rfl (lv_at hl 5 rfl) ?_
  refine lv_iconst (v := 0) hx hb dL_law_202 (by decide) ?_
  refine va_lald hx hb hK hP 0 4 rfl rfl vp01 dL_law_203 ?_
  refine lv_iload hx hb dL_law_204 (lv_at hl 0 rfl) ?_
  refine lv_i2l (v := v.toInt64) hx hb dL_law_206 rfl ?_
  refine W.lcmp hx hb dL_law_207 ?_
  refine lv_if_eq (tgt := 213) hx hb dL_law_208 (by decide) (fun _ => fin) (fun z => absurd ((lg_cmp_eq _ _).mpr (AN.lo an z0)) z)
set_option maxHeartbeats 4000000 in
set_option maxRecDepth 100000 in
theorem law_clearText {p : Program} {l : Launch} {e : Env} {s : State} {m : MethodId} {below : List Frame} {meth : Method} {c : Code} {dC : Nat → ClassId} {dI : Nat → Nat → Nat} {cy : Nat → ClassId} {b L : Nat} {xs : Nat → Int32} (hL : L ≤ 2560) (C0 : lw_At p s m meth c b L xs) (hlt : l.stackTraces = false) (hN : NW s) (hC : NC s) (hE : EX (fun q : Nat => s.heap.size ≤ q) s s.heap) (hK : va_K (dC, dI) vwCl (TY cy) s) {i : Nat} (hi : i + 5 ≤ L)
    {x a : Nat → Nat} {o : Nat} {F D : Fig} {P : PastS} {SL : Nat → Fig} {SV : Nat → Int32} {T : TextS} {WY : Nat → Int32} {md : Mod} {g : Nat → Int64} (iw : IW F P SL SV T md) {H : Heap} {locs : List Loc} {k1 k2 : Nat} (hr1 : k1 + 4 ≤ 601024) (hr2 : k2 + 24 ≤ 7293034)
    (hP : va_P (dC, dI) vwCl (LWd x a o cy F D P SL SV T WY md g) H) (hD : va_D (fun q : Nat => s.heap.size ≤ q) (LWd x a o cy F D P SL SV T WY md g)) (hS : va_S (fun q : Nat => s.heap.size ≤ q) s.heap H locs) {ls : Array Slot} (hl : lv_has ls 7 [(0, .ref b), (1, .ref (x 0)), (2, .ref (a 0)), (3, .ref o), (4, .int (nI i))]) {Q : State → Prop}
    (K : LK p l e s m below meth c (dC, dI) cy b i x a o k1 k2 Q) : W p l e room_1 s m #[Value.ref b] below meth c H locs k1 k2 Q (F0 m 216 ls []) := by
  obtain ⟨hx, hb, hr, hml, hown, hts, hX, hbl, hlocks, hgv⟩ := C0
  have htg : ∀ w ∈ GW, w.before #[Value.ref b] s = true := fun w hw => hts w (List.mem_filter.mp hw).1
  have hA : ∀ q : Nat, s.heap.size ≤ q → (fun q : Nat => s.heap.size ≤ q) q := fun _ h => h
  have hbA : ¬ (fun q : Nat => s.heap.size ≤ q) b := Nat.not_le.mpr hbl
  obtain ⟨hv1, hv2, hv3, hv4⟩ := lw_in5 hL hi
  obtain ⟨v, T', m', e1, e2, iw'⟩ := o_clearText iw
  refine lv_aload_n hx hb dL_law_216 rfl (lv_at hl 1 rfl) ?_
  refine cVp (av := []) (rest := []) (st1 := [.int v]) (k1 := k1 + 0) (k2 := k2 + 0) (wn := LWd x a o cy F D P SL SV T' WY md g) (ci := 3) (q0 := 0) hx hb hml hown htg hN hK (c_X8_clearText l dC dI cy x T (v, T') e1) (g_V gw214 gw215 gw216 gw59 gw217) hdV_X8_clearText rfl ⟨⟨Nat.le_of_ble_eq_true rfl, Nat.le_of_ble_eq_true rfl⟩, (show k1 + 0 ≤ 601024 by omega), (show k2 + 0 ≤ 7293034 by omega)⟩ hP hD hS hA ⟨rfl, rfl⟩ rfl (pm_st _ _ _ _ _ _ _ _ _ _ _) (pn_st _ _ _ _ _ _ _ _ _ _ _) hl.1 rfl (Nat.le_of_ble_eq_true rfl) rfl rfl rfl dL_law_217 (fun H locs hP hD hS => ?_)
  refine lv_aload_n hx hb dL_law_220 rfl (lv_at hl 2 rfl) ?_
  refine cVp (av := []) (rest := [.int v]) (st1 := [.int v, .int v]) (k1 := k1 + 0) (k2 := k2 + 0) (wn := LWd x a o cy F D P SL SV T' WY m' g) (ci := 4) (q0 := 0) hx hb hml hown htg hN hK (c_X9_clearText l dC dI cy a md (v, m') e2) (g_V gw916 gw917 gw918 gw63 gw919) hdV_X9_clearText rfl ⟨⟨Nat.le_of_ble_eq_true rfl, Nat.le_of_ble_eq_true rfl⟩, (show k1 + 0 ≤ 601024 by omega), (show k2 + 0 ≤ 7293034 by omega)⟩ hP hD hS hA ⟨rfl, rfl⟩ rfl (pm_mo _ _ _ _ _ _ _ _ _ _ _) (pn_mo _ _ _ _ _ _ _ _ _ _ _) hl.1 rfl (Nat.le_of_ble_eq_true rfl) rfl rfl rfl dL_law_221 (fun H locs hP hD hS => ?_)
  refine lv_icmp_eq (tgt := 1741) hx hb dL_law_224 (by decide) (fun _ => ?_) (fun z => absurd rfl z)
  refine W.widen (k := k1 + 4) (n := k2 + 24) (by omega) (by omega) ?_
  exact K _ _ _ _ _ _ _ _ _ H locs ls iw' hP hD hS hl
set_option maxHeartbeats 4000000 in
set_option maxRecDepth 100000 in
theorem law_errorPosition {p : Program} {l : Launch} {e : Env} {s : State} {m : MethodId} {below : List Frame} {meth : Method} {c : Code} {dC : Nat → ClassId} {dI : Nat → Nat → Nat} {cy : Nat → ClassId} {b L : Nat} {xs : Nat → Int32} (hL : L ≤ 2560) (C0 : lw_At p s m meth c b L xs) (hlt : l.stackTraces = false) (hN : NW s) (hC : NC s) (hE : EX (fun q : Nat => s.heap.size ≤ q) s s.heap) (hK : va_K (dC, dI) vwCl (TY cy) s) {i : Nat} (hi : i + 5 ≤ L)
    {x a : Nat → Nat} {o : Nat} {F D : Fig} {P : PastS} {SL : Nat → Fig} {SV : Nat → Int32} {T : TextS} {WY : Nat → Int32} {md : Mod} {g : Nat → Int64} (iw : IW F P SL SV T md) {H : Heap} {locs : List Loc} {k1 k2 : Nat} (hr1 : k1 + 4 ≤ 601024) (hr2 : k2 + 24 ≤ 7293034)
    (hP : va_P (dC, dI) vwCl (LWd x a o cy F D P SL SV T WY md g) H) (hD : va_D (fun q : Nat => s.heap.size ≤ q) (LWd x a o cy F D P SL SV T WY md g)) (hS : va_S (fun q : Nat => s.heap.size ≤ q) s.heap H locs) {ls : Array Slot} (hl : lv_has ls 7 [(0, .ref b), (1, .ref (x 0)), (2, .ref (a 0)), (3, .ref o), (4, .int (nI i))]) {Q : State → Prop}
    (K : LK p l e s m below meth c (dC, dI) cy b i x a o k1 k2 Q) : W p l e room_1 s m #[Value.ref b] below meth c H locs k1 k2 Q (F0 m 229 ls []) := by
  obtain ⟨hx, hb, hr, hml, hown, hts, hX, hbl, hlocks, hgv⟩ := C0
  have htg : ∀ w ∈ GW, w.before #[Value.ref b] s = true := fun w hw => hts w (List.mem_filter.mp hw).1
  have hA : ∀ q : Nat, s.heap.size ≤ q → (fun q : Nat => s.heap.size ≤ q) q := fun _ h => h
  have hbA : ¬ (fun q : Nat => s.heap.size ≤ q) b := Nat.not_le.mpr hbl
  obtain ⟨hv1, hv2, hv3, hv4⟩ := lw_in5 hL hi
  obtain ⟨v, D', m', e1, e2, iw'⟩ := o_errorPosition iw D
  refine lv_aload_n hx hb dL_law_229 rfl (lv_at hl 1 rfl) ?_
  refine cVp (av := []) (rest := []) (st1 := [.int v]) (k1 := k1 + 0) (k2 := k2 + 0) (wn := LWd x a o cy F D' P SL SV T WY md g) (ci := 3) (q0 := 0) hx hb hml hown htg hN hK (c_X8_errorPosition l dC dI cy x D T (v, D') e1) (g_V gw218 gw219 gw220 gw59 gw221) hdV_X8_errorPosition rfl ⟨⟨Nat.le_of_ble_eq_true rfl, Nat.le_of_ble_eq_true rfl⟩, (show k1 + 0 ≤ 601024 by omega), (show k2 + 0 ≤ 7293034 by omega)⟩ hP hD hS hA ⟨rfl, rfl⟩ rfl (pm_sdt _ _ _ _ _ _ _ _ _ _ _) (pn_sdt _ _ _ _ _ _ _ _ _ _ _) hl.1 rfl (Nat.le_of_ble_eq_true rfl) rfl rfl rfl dL_law_230 (fun H locs hP hD hS => ?_)
  refine lv_aload_n hx hb dL_law_233 rfl (lv_at hl 2 rfl) ?_
  refine cVp (av := []) (rest := [.int v]) (st1 := [.int v, .int v]) (k1 := k1 + 0) (k2 := k2 + 0) (wn := LWd x a o cy F D' P SL SV T WY m' g) (ci := 4) (q0 := 0) hx hb hml hown htg hN hK (c_X9_errorPosition l dC dI cy a md (v, m') e2) (g_V gw920 gw921 gw922 gw63 gw923) hdV_X9_errorPosition rfl ⟨⟨Nat.le_of_ble_eq_true rfl, Nat.le_of_ble_eq_true rfl⟩, (show k1 + 0 ≤ 601024 by omega), (show k2 + 0 ≤ 7293034 by omega)⟩ hP hD hS hA ⟨rfl, rfl⟩ rfl (pm_mo _ _ _ _ _ _ _ _ _ _ _) (pn_mo _ _ _ _ _ _ _ _ _ _ _) hl.1 rfl (Nat.le_of_ble_eq_true rfl) rfl rfl rfl dL_law_234 (fun H locs hP hD hS => ?_)
  refine lv_icmp_eq (tgt := 1741) hx hb dL_law_237 (by decide) (fun _ => ?_) (fun z => absurd rfl z)
  refine W.widen (k := k1 + 4) (n := k2 + 24) (by omega) (by omega) ?_
  exact K _ _ _ _ _ _ _ _ _ H locs ls iw' hP hD hS hl
set_option maxHeartbeats 4000000 in
set_option maxRecDepth 100000 in
theorem law_load {p : Program} {l : Launch} {e : Env} {s : State} {m : MethodId} {below : List Frame} {meth : Method} {c : Code} {dC : Nat → ClassId} {dI : Nat → Nat → Nat} {cy : Nat → ClassId} {b L : Nat} {xs : Nat → Int32} (hL : L ≤ 2560) (C0 : lw_At p s m meth c b L xs) (hlt : l.stackTraces = false) (hN : NW s) (hC : NC s) (hE : EX (fun q : Nat => s.heap.size ≤ q) s s.heap) (hK : va_K (dC, dI) vwCl (TY cy) s) {i : Nat} (hi : i + 5 ≤ L)
    {x a : Nat → Nat} {o : Nat} {F D : Fig} {P : PastS} {SL : Nat → Fig} {SV : Nat → Int32} {T : TextS} {WY : Nat → Int32} {md : Mod} {g : Nat → Int64} (iw : IW F P SL SV T md) {H : Heap} {locs : List Loc} {k1 k2 : Nat} (hr1 : k1 + 4 ≤ 601024) (hr2 : k2 + 24 ≤ 7293034)
    (hP : va_P (dC, dI) vwCl (LWd x a o cy F D P SL SV T WY md g) H) (hD : va_D (fun q : Nat => s.heap.size ≤ q) (LWd x a o cy F D P SL SV T WY md g)) (hS : va_S (fun q : Nat => s.heap.size ≤ q) s.heap H locs) {ls : Array Slot} (hl : lv_has ls 7 [(0, .ref b), (1, .ref (x 0)), (2, .ref (a 0)), (3, .ref o), (4, .int (nI i))]) {Q : State → Prop}
    (K : LK p l e s m below meth c (dC, dI) cy b i x a o k1 k2 Q) : W p l e room_1 s m #[Value.ref b] below meth c H locs k1 k2 Q (F0 m 242 ls []) := by
  obtain ⟨hx, hb, hr, hml, hown, hts, hX, hbl, hlocks, hgv⟩ := C0
  have htg : ∀ w ∈ GW, w.before #[Value.ref b] s = true := fun w hw => hts w (List.mem_filter.mp hw).1
  have hA : ∀ q : Nat, s.heap.size ≤ q → (fun q : Nat => s.heap.size ≤ q) q := fun _ h => h
  have hbA : ¬ (fun q : Nat => s.heap.size ≤ q) b := Nat.not_le.mpr hbl
  obtain ⟨hv1, hv2, hv3, hv4⟩ := lw_in5 hL hi
  obtain ⟨a1, F', D', P', SV', v, m', e1, e2, iw', an⟩ := o_load iw D
  refine lv_aload_n hx hb dL_law_242 rfl (lv_at hl 1 rfl) ?_
  refine lv_aload_n hx hb dL_law_243 rfl (lv_at hl 3 rfl) ?_
  have hk : ∀ k, a1 = .inl k → k = 3 := fun k hq => A1.k an hq
  refine cLW (av := [.ref (x 0), .ref o]) (rest := []) (st1 := [.int (lk 3 a1)]) (ret := some (.int (lk 3 a1))) (wn := LWd x a o cy F' D' P' SL SV' T WY md (lo g a1)) hx hb hml hown htg hN hK hE hC (c_L_load l dC dI cy hlt x F D P SV T (a1, F', D', P', SV') e1 o g hk) ⟨gw522, gw523, gw58, cw_load⟩ hdL_load rfl ⟨⟨Nat.le_of_ble_eq_true rfl, Nat.le_of_ble_eq_true rfl⟩, (show k1 + 1 ≤ 601024 by omega), (show k2 + 6 ≤ 7293034 by omega)⟩ hP hD hS hA (pm_sfdpbatqL _ _ _ _ _ _ _ _ _ _ _) (pn_sfdpbatqL _ _ _ _ _ _ _ _ _ _ _) hl.1 rfl (Nat.le_of_ble_eq_true rfl) rfl dL_law_244 (fun H locs hP hD hS => ?_)
  refine W.eq (g2 := F0 m 247 ls [.int (lk 3 a1)]) rfl ?_
  refine lv_istore (lv' := [(5, .int (lk 3 a1)), (0, .ref b), (1, .ref (x 0)), (2, .ref (a 0)), (3, .ref o), (4, .int (nI i))]) hx hb dL_law_247 hl (by decide) rfl (fun ls hl => ?_)
  refine lv_aload_n hx hb dL_law_249 rfl (lv_at hl 3 rfl) ?_
  refine cVp (av := []) (rest := []) (st1 := [.int v]) (k1 := k1 + 1) (k2 := k2 + 6) (wn := LWd x a o cy F' D' P' SL SV' T WY m' (lo g a1)) (ci := 4) (q0 := 0) hx hb hml hown htg hN hK (c_X9_load l dC dI cy a md (v, m') e2) (g_V gw992 gw993 gw994 gw63 gw995) hdV_X9_load rfl ⟨⟨Nat.le_of_ble_eq_true rfl, Nat.le_of_ble_eq_true rfl⟩, (show k1 + 1 ≤ 601024 by omega), (show k2 + 6 ≤ 7293034 by omega)⟩ hP hD hS hA ⟨rfl, rfl⟩ rfl (pm_mo _ _ _ _ _ _ _ _ _ _ _) (pn_mo _ _ _ _ _ _ _ _ _ _ _) hl.1 rfl (Nat.le_of_ble_eq_true rfl) rfl rfl rfl dL_law_250 (fun H locs hP hD hS => ?_)
  refine lv_istore (lv' := [(6, .int v), (5, .int (lk 3 a1)), (0, .ref b), (1, .ref (x 0)), (2, .ref (a 0)), (3, .ref o), (4, .int (nI i))]) hx hb dL_law_253 hl (by decide) rfl (fun ls hl => ?_)
  refine lv_aload_n hx hb dL_law_255 rfl (lv_at hl 4 rfl) ?_
  refine cVp (av := []) (rest := []) (st1 := [.int (m_thrown m')]) (k1 := k1 + 1) (k2 := k2 + 6) (wn := LWd x a o cy F' D' P' SL SV' T WY m' (lo g a1)) (ci := 4) (q0 := 0) hx hb hml hown htg hN hK (c_X9_thrown l dC dI cy a m' (m_thrown m') rfl) (g_V gw905 gw906 gw907 gw63 gw908) hdV_X9_thrown rfl ⟨⟨Nat.le_of_ble_eq_true rfl, Nat.le_of_ble_eq_true rfl⟩, (show k1 + 1 ≤ 601024 by omega), (show k2 + 6 ≤ 7293034 by omega)⟩ hP hD hS hA ⟨rfl, rfl⟩ rfl (pm_mo _ _ _ _ _ _ _ _ _ _ _) (pn_mo _ _ _ _ _ _ _ _ _ _ _) hl.1 rfl (Nat.le_of_ble_eq_true rfl) rfl rfl rfl dL_law_256 (fun H locs hP hD hS => ?_)
  refine lv_iload hx hb dL_law_259 (lv_at hl 1 rfl) ?_
  refine lv_icmp_eq (tgt := 266) hx hb dL_law_261 (by decide) (fun _ => ?_) (fun z => absurd (A1.t an) z)
  refine lv_iload hx hb dL_law_266 (lv_at hl 1 rfl) ?_
  have fin : W p l e room_1 s m #[Value.ref b] below meth c H locs (k1 + 1) (k2 + 6) Q (F0 m 283 ls []) := by
    refine lv_goto (tgt := 1741) hx hb dL_law_283 (by decide) ?_
    refine W.widen (k := k1 + 4) (n := k2 + 24) (by omega) (by omega) ?_
    exact K _ _ _ _ _ _ _ _ _ H locs ls iw' hP hD hS (lv_sub hl [2, 3, 4, 5, 6] rfl)
  refine lv_if_ne (tgt := 283) hx hb dL_law_268 (by decide) (fun _ => fin) (fun z0 => ?_)
  refine lv_aload_n hx hb dL_law_271 rfl (lv_at hl 5 rfl) ?_
  refine lv_iconst (v := 0) hx hb dL_law_272 (by decide) ?_
  refine va_lald hx hb hK hP 0 4 rfl rfl vp01 dL_law_273 ?_
  refine lv_iload hx hb dL_law_274 (lv_at hl 0 rfl) ?_
  refine lv_i2l (v := v.toInt64) hx hb dL_law_276 rfl ?_
  refine W.lcmp hx hb dL_law_277 ?_
  refine lv_if_eq (tgt := 283) hx hb dL_law_278 (by decide) (fun _ => fin) (fun z => absurd ((lg_cmp_eq _ _).mpr (A1.lo an z0)) z)
set_option maxHeartbeats 4000000 in
set_option maxRecDepth 100000 in
theorem law_about {p : Program} {l : Launch} {e : Env} {s : State} {m : MethodId} {below : List Frame} {meth : Method} {c : Code} {dC : Nat → ClassId} {dI : Nat → Nat → Nat} {cy : Nat → ClassId} {b L : Nat} {xs : Nat → Int32} (hL : L ≤ 2560) (C0 : lw_At p s m meth c b L xs) (hlt : l.stackTraces = false) (hN : NW s) (hC : NC s) (hE : EX (fun q : Nat => s.heap.size ≤ q) s s.heap) (hK : va_K (dC, dI) vwCl (TY cy) s) {i : Nat} (hi : i + 5 ≤ L)
    {x a : Nat → Nat} {o : Nat} {F D : Fig} {P : PastS} {SL : Nat → Fig} {SV : Nat → Int32} {T : TextS} {WY : Nat → Int32} {md : Mod} {g : Nat → Int64} (iw : IW F P SL SV T md) {H : Heap} {locs : List Loc} {k1 k2 : Nat} (hr1 : k1 + 4 ≤ 601024) (hr2 : k2 + 24 ≤ 7293034)
    (hP : va_P (dC, dI) vwCl (LWd x a o cy F D P SL SV T WY md g) H) (hD : va_D (fun q : Nat => s.heap.size ≤ q) (LWd x a o cy F D P SL SV T WY md g)) (hS : va_S (fun q : Nat => s.heap.size ≤ q) s.heap H locs) {ls : Array Slot} (hl : lv_has ls 7 [(0, .ref b), (1, .ref (x 0)), (2, .ref (a 0)), (3, .ref o), (4, .int (nI i))]) {Q : State → Prop}
    (K : LK p l e s m below meth c (dC, dI) cy b i x a o k1 k2 Q) : W p l e room_1 s m #[Value.ref b] below meth c H locs k1 k2 Q (F0 m 286 ls []) := by
  obtain ⟨hx, hb, hr, hml, hown, hts, hX, hbl, hlocks, hgv⟩ := C0
  have htg : ∀ w ∈ GW, w.before #[Value.ref b] s = true := fun w hw => hts w (List.mem_filter.mp hw).1
  have hA : ∀ q : Nat, s.heap.size ≤ q → (fun q : Nat => s.heap.size ≤ q) q := fun _ h => h
  have hbA : ¬ (fun q : Nat => s.heap.size ≤ q) b := Nat.not_le.mpr hbl
  obtain ⟨hv1, hv2, hv3, hv4⟩ := lw_in5 hL hi
  obtain ⟨a1, v, m', e1, e2, iv', sz', an⟩ := o_about iw.1 (xs (nI i + 1).toNatClampNeg)
  have iw' := iw.up iv' sz'
  refine lv_aload_n hx hb dL_law_286 rfl (lv_at hl 1 rfl) ?_
  refine lv_aload_n hx hb dL_law_287 rfl (lv_at hl 0 rfl) ?_
  refine lv_iload hx hb dL_law_288 (lv_at hl 4 rfl) ?_
  refine lv_iconst (v := 1) hx hb dL_law_290 (by decide) ?_
  refine lv_iadd hx hb dL_law_291 ?_
  refine va_sld hx hb hX hbl hbA hS hv1 dL_law_292 ?_
  refine lv_aload_n hx hb dL_law_293 rfl (lv_at hl 3 rfl) ?_
  have hk : ∀ k, a1 = .inl k → k = 2 := fun k hq => A1.k an hq
  refine cLW (av := [.ref (x 0), .int (xs (nI i + 1).toNatClampNeg), .ref o]) (rest := []) (st1 := [.int (lk 2 a1)]) (ret := some (.int (lk 2 a1))) (wn := LWd x a o cy F D P SL SV T WY md (lo g a1)) hx hb hml hown htg hN hK hE hC (c_L_about l dC dI cy hlt x F (xs (nI i + 1).toNatClampNeg) a1 e1 o g hk) ⟨gw534, gw535, gw58, cw_about⟩ hdL_about rfl ⟨⟨Nat.le_of_ble_eq_true rfl, Nat.le_of_ble_eq_true rfl⟩, (show k1 + 1 ≤ 601024 by omega), (show k2 + 6 ≤ 7293034 by omega)⟩ hP hD hS hA (pm_sfL _ _ _ _ _ _ _ _ _ _ _) (pn_sfL _ _ _ _ _ _ _ _ _ _ _) hl.1 rfl (Nat.le_of_ble_eq_true rfl) rfl dL_law_294 (fun H locs hP hD hS => ?_)
  refine W.eq (g2 := F0 m 297 ls [.int (lk 2 a1)]) rfl ?_
  refine lv_istore (lv' := [(5, .int (lk 2 a1)), (0, .ref b), (1, .ref (x 0)), (2, .ref (a 0)), (3, .ref o), (4, .int (nI i))]) hx hb dL_law_297 hl (by decide) rfl (fun ls hl => ?_)
  refine lv_aload_n hx hb dL_law_299 rfl (lv_at hl 3 rfl) ?_
  refine lv_aload_n hx hb dL_law_300 rfl (lv_at hl 1 rfl) ?_
  refine lv_iload hx hb dL_law_301 (lv_at hl 5 rfl) ?_
  refine lv_iconst (v := 1) hx hb dL_law_303 (by decide) ?_
  refine lv_iadd hx hb dL_law_304 ?_
  refine va_sld hx hb hX hbl hbA hS hv1 dL_law_305 ?_
  refine cVp (av := [.int (xs (nI i + 1).toNatClampNeg)]) (rest := []) (st1 := [.int v]) (k1 := k1 + 1) (k2 := k2 + 6) (wn := LWd x a o cy F D P SL SV T WY m' (lo g a1)) (ci := 4) (q0 := 0) hx hb hml hown htg hN hK (c_X9_about l dC dI cy a md (xs (nI i + 1).toNatClampNeg) (v, m') e2) (g_V gw996 gw997 gw998 gw63 gw999) hdV_X9_about rfl ⟨⟨Nat.le_of_ble_eq_true rfl, Nat.le_of_ble_eq_true rfl⟩, (show k1 + 1 ≤ 601024 by omega), (show k2 + 6 ≤ 7293034 by omega)⟩ hP hD hS hA ⟨rfl, rfl⟩ rfl (pm_mo _ _ _ _ _ _ _ _ _ _ _) (pn_mo _ _ _ _ _ _ _ _ _ _ _) hl.1 rfl (Nat.le_of_ble_eq_true rfl) rfl rfl rfl dL_law_306 (fun H locs hP hD hS => ?_)
  refine lv_istore (lv' := [(6, .int v), (5, .int (lk 2 a1)), (0, .ref b), (1, .ref (x 0)), (2, .ref (a 0)), (3, .ref o), (4, .int (nI i))]) hx hb dL_law_309 hl (by decide) rfl (fun ls hl => ?_)
  refine lv_aload_n hx hb dL_law_311 rfl (lv_at hl 4 rfl) ?_
  refine cVp (av := []) (rest := []) (st1 := [.int (m_thrown m')]) (k1 := k1 + 1) (k2 := k2 + 6) (wn := LWd x a o cy F D P SL SV T WY m' (lo g a1)) (ci := 4) (q0 := 0) hx hb hml hown htg hN hK (c_X9_thrown l dC dI cy a m' (m_thrown m') rfl) (g_V gw905 gw906 gw907 gw63 gw908) hdV_X9_thrown rfl ⟨⟨Nat.le_of_ble_eq_true rfl, Nat.le_of_ble_eq_true rfl⟩, (show k1 + 1 ≤ 601024 by omega), (show k2 + 6 ≤ 7293034 by omega)⟩ hP hD hS hA ⟨rfl, rfl⟩ rfl (pm_mo _ _ _ _ _ _ _ _ _ _ _) (pn_mo _ _ _ _ _ _ _ _ _ _ _) hl.1 rfl (Nat.le_of_ble_eq_true rfl) rfl rfl rfl dL_law_312 (fun H locs hP hD hS => ?_)
  refine lv_iload hx hb dL_law_315 (lv_at hl 1 rfl) ?_
  refine lv_icmp_eq (tgt := 322) hx hb dL_law_317 (by decide) (fun _ => ?_) (fun z => absurd (A1.t an) z)
  refine lv_iload hx hb dL_law_322 (lv_at hl 1 rfl) ?_
  have fin : W p l e room_1 s m #[Value.ref b] below meth c H locs (k1 + 1) (k2 + 6) Q (F0 m 339 ls []) := by
    refine lv_goto (tgt := 1741) hx hb dL_law_339 (by decide) ?_
    refine W.widen (k := k1 + 4) (n := k2 + 24) (by omega) (by omega) ?_
    exact K _ _ _ _ _ _ _ _ _ H locs ls iw' hP hD hS (lv_sub hl [2, 3, 4, 5, 6] rfl)
  refine lv_if_ne (tgt := 339) hx hb dL_law_324 (by decide) (fun _ => fin) (fun z0 => ?_)
  refine lv_aload_n hx hb dL_law_327 rfl (lv_at hl 5 rfl) ?_
  refine lv_iconst (v := 0) hx hb dL_law_328 (by decide) ?_
  refine va_lald hx hb hK hP 0 4 rfl rfl vp01 dL_law_329 ?_
  refine lv_iload hx hb dL_law_330 (lv_at hl 0 rfl) ?_
  refine lv_i2l (v := v.toInt64) hx hb dL_law_332 rfl ?_
  refine W.lcmp hx hb dL_law_333 ?_
  refine lv_if_eq (tgt := 339) hx hb dL_law_334 (by decide) (fun _ => fin) (fun z => absurd ((lg_cmp_eq _ _).mpr (A1.lo an z0)) z)
set_option maxHeartbeats 4000000 in
set_option maxRecDepth 100000 in
theorem law_ring {p : Program} {l : Launch} {e : Env} {s : State} {m : MethodId} {below : List Frame} {meth : Method} {c : Code} {dC : Nat → ClassId} {dI : Nat → Nat → Nat} {cy : Nat → ClassId} {b L : Nat} {xs : Nat → Int32} (hL : L ≤ 2560) (C0 : lw_At p s m meth c b L xs) (hlt : l.stackTraces = false) (hN : NW s) (hC : NC s) (hE : EX (fun q : Nat => s.heap.size ≤ q) s s.heap) (hK : va_K (dC, dI) vwCl (TY cy) s) {i : Nat} (hi : i + 5 ≤ L)
    {x a : Nat → Nat} {o : Nat} {F D : Fig} {P : PastS} {SL : Nat → Fig} {SV : Nat → Int32} {T : TextS} {WY : Nat → Int32} {md : Mod} {g : Nat → Int64} (iw : IW F P SL SV T md) {H : Heap} {locs : List Loc} {k1 k2 : Nat} (hr1 : k1 + 4 ≤ 601024) (hr2 : k2 + 24 ≤ 7293034)
    (hP : va_P (dC, dI) vwCl (LWd x a o cy F D P SL SV T WY md g) H) (hD : va_D (fun q : Nat => s.heap.size ≤ q) (LWd x a o cy F D P SL SV T WY md g)) (hS : va_S (fun q : Nat => s.heap.size ≤ q) s.heap H locs) {ls : Array Slot} (hl : lv_has ls 7 [(0, .ref b), (1, .ref (x 0)), (2, .ref (a 0)), (3, .ref o), (4, .int (nI i))]) {Q : State → Prop}
    (K : LK p l e s m below meth c (dC, dI) cy b i x a o k1 k2 Q) : W p l e room_1 s m #[Value.ref b] below meth c H locs k1 k2 Q (F0 m 342 ls []) := by
  obtain ⟨hx, hb, hr, hml, hown, hts, hX, hbl, hlocks, hgv⟩ := C0
  have htg : ∀ w ∈ GW, w.before #[Value.ref b] s = true := fun w hw => hts w (List.mem_filter.mp hw).1
  have hA : ∀ q : Nat, s.heap.size ≤ q → (fun q : Nat => s.heap.size ≤ q) q := fun _ h => h
  have hbA : ¬ (fun q : Nat => s.heap.size ≤ q) b := Nat.not_le.mpr hbl
  obtain ⟨hv1, hv2, hv3, hv4⟩ := lw_in5 hL hi
  obtain ⟨a1, v, m', e1, e2, iv', sz', an⟩ := o_ring iw.1 (xs (nI i + 1).toNatClampNeg) (xs (nI i + 2).toNatClampNeg)
  have iw' := iw.up iv' sz'
  refine lv_aload_n hx hb dL_law_342 rfl (lv_at hl 1 rfl) ?_
  refine lv_aload_n hx hb dL_law_343 rfl (lv_at hl 0 rfl) ?_
  refine lv_iload hx hb dL_law_344 (lv_at hl 4 rfl) ?_
  refine lv_iconst (v := 1) hx hb dL_law_346 (by decide) ?_
  refine lv_iadd hx hb dL_law_347 ?_
  refine va_sld hx hb hX hbl hbA hS hv1 dL_law_348 ?_
  refine lv_aload_n hx hb dL_law_349 rfl (lv_at hl 0 rfl) ?_
  refine lv_iload hx hb dL_law_350 (lv_at hl 4 rfl) ?_
  refine lv_iconst (v := 2) hx hb dL_law_352 (by decide) ?_
  refine lv_iadd hx hb dL_law_353 ?_
  refine va_sld hx hb hX hbl hbA hS hv2 dL_law_354 ?_
  refine lv_aload_n hx hb dL_law_355 rfl (lv_at hl 3 rfl) ?_
  have hk : ∀ k, a1 = .inl k → k = 1 ∨ k = 2 := fun k hq => AN.k an hq
  refine cLW (av := [.ref (x 0), .int (xs (nI i + 1).toNatClampNeg), .int (xs (nI i + 2).toNatClampNeg), .ref o]) (rest := []) (st1 := [.int (lk 1 a1)]) (ret := some (.int (lk 1 a1))) (wn := LWd x a o cy F D P SL SV T WY md (lo g a1)) hx hb hml hown htg hN hK hE hC (c_L_ring l dC dI cy hlt x F (xs (nI i + 1).toNatClampNeg) (xs (nI i + 2).toNatClampNeg) a1 e1 o g hk) ⟨gw574, gw575, gw58, cw_ring⟩ hdL_ring rfl ⟨⟨Nat.le_of_ble_eq_true rfl, Nat.le_of_ble_eq_true rfl⟩, (show k1 + 2 ≤ 601024 by omega), (show k2 + 12 ≤ 7293034 by omega)⟩ hP hD hS hA (pm_sfL _ _ _ _ _ _ _ _ _ _ _) (pn_sfL _ _ _ _ _ _ _ _ _ _ _) hl.1 rfl (Nat.le_of_ble_eq_true rfl) rfl dL_law_356 (fun H locs hP hD hS => ?_)
  refine W.eq (g2 := F0 m 359 ls [.int (lk 1 a1)]) rfl ?_
  refine lv_istore (lv' := [(5, .int (lk 1 a1)), (0, .ref b), (1, .ref (x 0)), (2, .ref (a 0)), (3, .ref o), (4, .int (nI i))]) hx hb dL_law_359 hl (by decide) rfl (fun ls hl => ?_)
  refine lv_aload_n hx hb dL_law_361 rfl (lv_at hl 3 rfl) ?_
  refine lv_aload_n hx hb dL_law_362 rfl (lv_at hl 1 rfl) ?_
  refine lv_iload hx hb dL_law_363 (lv_at hl 5 rfl) ?_
  refine lv_iconst (v := 1) hx hb dL_law_365 (by decide) ?_
  refine lv_iadd hx hb dL_law_366 ?_
  refine va_sld hx hb hX hbl hbA hS hv1 dL_law_367 ?_
  refine lv_aload_n hx hb dL_law_368 rfl (lv_at hl 1 rfl) ?_
  refine lv_iload hx hb dL_law_369 (lv_at hl 5 rfl) ?_
  refine lv_iconst (v := 2) hx hb dL_law_371 (by decide) ?_
  refine lv_iadd hx hb dL_law_372 ?_
  refine va_sld hx hb hX hbl hbA hS hv2 dL_law_373 ?_
  refine cVp (av := [.int (xs (nI i + 1).toNatClampNeg), .int (xs (nI i + 2).toNatClampNeg)]) (rest := []) (st1 := [.int v]) (k1 := k1 + 2) (k2 := k2 + 12) (wn := LWd x a o cy F D P SL SV T WY m' (lo g a1)) (ci := 4) (q0 := 0) hx hb hml hown htg hN hK (c_X9_ring l dC dI cy a md (xs (nI i + 1).toNatClampNeg) (xs (nI i + 2).toNatClampNeg) (v, m') e2) (g_V gw1082 gw1083 gw1084 gw63 gw1085) hdV_X9_ring rfl ⟨⟨Nat.le_of_ble_eq_true rfl, Nat.le_of_ble_eq_true rfl⟩, (show k1 + 2 ≤ 601024 by omega), (show k2 + 12 ≤ 7293034 by omega)⟩ hP hD hS hA ⟨rfl, rfl⟩ rfl (pm_mo _ _ _ _ _ _ _ _ _ _ _) (pn_mo _ _ _ _ _ _ _ _ _ _ _) hl.1 rfl (Nat.le_of_ble_eq_true rfl) rfl rfl rfl dL_law_374 (fun H locs hP hD hS => ?_)
  refine lv_istore (lv' := [(6, .int v), (5, .int (lk 1 a1)), (0, .ref b), (1, .ref (x 0)), (2, .ref (a 0)), (3, .ref o), (4, .int (nI i))]) hx hb dL_law_377 hl (by decide) rfl (fun ls hl => ?_)
  refine lv_aload_n hx hb dL_law_379 rfl (lv_at hl 4 rfl) ?_
  refine cVp (av := []) (rest := []) (st1 := [.int (m_thrown m')]) (k1 := k1 + 2) (k2 := k2 + 12) (wn := LWd x a o cy F D P SL SV T WY m' (lo g a1)) (ci := 4) (q0 := 0) hx hb hml hown htg hN hK (c_X9_thrown l dC dI cy a m' (m_thrown m') rfl) (g_V gw905 gw906 gw907 gw63 gw908) hdV_X9_thrown rfl ⟨⟨Nat.le_of_ble_eq_true rfl, Nat.le_of_ble_eq_true rfl⟩, (show k1 + 2 ≤ 601024 by omega), (show k2 + 12 ≤ 7293034 by omega)⟩ hP hD hS hA ⟨rfl, rfl⟩ rfl (pm_mo _ _ _ _ _ _ _ _ _ _ _) (pn_mo _ _ _ _ _ _ _ _ _ _ _) hl.1 rfl (Nat.le_of_ble_eq_true rfl) rfl rfl rfl dL_law_380 (fun H locs hP hD hS => ?_)
  refine lv_iload hx hb dL_law_383 (lv_at hl 1 rfl) ?_
  refine lv_icmp_eq (tgt := 390) hx hb dL_law_385 (by decide) (fun _ => ?_) (fun z => absurd (AN.t an) z)
  refine lv_iload hx hb dL_law_390 (lv_at hl 1 rfl) ?_
  have fin : W p l e room_1 s m #[Value.ref b] below meth c H locs (k1 + 2) (k2 + 12) Q (F0 m 407 ls []) := by
    refine lv_goto (tgt := 1741) hx hb dL_law_407 (by decide) ?_
    refine W.widen (k := k1 + 4) (n := k2 + 24) (by omega) (by omega) ?_
    exact K _ _ _ _ _ _ _ _ _ H locs ls iw' hP hD hS (lv_sub hl [2, 3, 4, 5, 6] rfl)
  refine lv_if_ne (tgt := 407) hx hb dL_law_392 (by decide) (fun _ => fin) (fun z0 => ?_)
  refine lv_aload_n hx hb dL_law_395 rfl (lv_at hl 5 rfl) ?_
  refine lv_iconst (v := 0) hx hb dL_law_396 (by decide) ?_
  refine va_lald hx hb hK hP 0 4 rfl rfl vp01 dL_law_397 ?_
  refine lv_iload hx hb dL_law_398 (lv_at hl 0 rfl) ?_
  refine lv_i2l (v := v.toInt64) hx hb dL_law_400 rfl ?_
  refine W.lcmp hx hb dL_law_401 ?_
  refine lv_if_eq (tgt := 407) hx hb dL_law_402 (by decide) (fun _ => fin) (fun z => absurd ((lg_cmp_eq _ _).mpr (AN.lo an z0)) z)
set_option maxHeartbeats 4000000 in
set_option maxRecDepth 100000 in
theorem law_corner {p : Program} {l : Launch} {e : Env} {s : State} {m : MethodId} {below : List Frame} {meth : Method} {c : Code} {dC : Nat → ClassId} {dI : Nat → Nat → Nat} {cy : Nat → ClassId} {b L : Nat} {xs : Nat → Int32} (hL : L ≤ 2560) (C0 : lw_At p s m meth c b L xs) (hlt : l.stackTraces = false) (hN : NW s) (hC : NC s) (hE : EX (fun q : Nat => s.heap.size ≤ q) s s.heap) (hK : va_K (dC, dI) vwCl (TY cy) s) {i : Nat} (hi : i + 5 ≤ L)
    {x a : Nat → Nat} {o : Nat} {F D : Fig} {P : PastS} {SL : Nat → Fig} {SV : Nat → Int32} {T : TextS} {WY : Nat → Int32} {md : Mod} {g : Nat → Int64} (iw : IW F P SL SV T md) {H : Heap} {locs : List Loc} {k1 k2 : Nat} (hr1 : k1 + 4 ≤ 601024) (hr2 : k2 + 24 ≤ 7293034)
    (hP : va_P (dC, dI) vwCl (LWd x a o cy F D P SL SV T WY md g) H) (hD : va_D (fun q : Nat => s.heap.size ≤ q) (LWd x a o cy F D P SL SV T WY md g)) (hS : va_S (fun q : Nat => s.heap.size ≤ q) s.heap H locs) {ls : Array Slot} (hl : lv_has ls 7 [(0, .ref b), (1, .ref (x 0)), (2, .ref (a 0)), (3, .ref o), (4, .int (nI i))]) {Q : State → Prop}
    (K : LK p l e s m below meth c (dC, dI) cy b i x a o k1 k2 Q) : W p l e room_1 s m #[Value.ref b] below meth c H locs k1 k2 Q (F0 m 410 ls []) := by
  obtain ⟨hx, hb, hr, hml, hown, hts, hX, hbl, hlocks, hgv⟩ := C0
  have htg : ∀ w ∈ GW, w.before #[Value.ref b] s = true := fun w hw => hts w (List.mem_filter.mp hw).1
  have hA : ∀ q : Nat, s.heap.size ≤ q → (fun q : Nat => s.heap.size ≤ q) q := fun _ h => h
  have hbA : ¬ (fun q : Nat => s.heap.size ≤ q) b := Nat.not_le.mpr hbl
  obtain ⟨hv1, hv2, hv3, hv4⟩ := lw_in5 hL hi
  obtain ⟨a1, v, m', e1, e2, iv', sz', an⟩ := o_corner iw.1 (xs (nI i + 1).toNatClampNeg) (xs (nI i + 2).toNatClampNeg) (xs (nI i + 3).toNatClampNeg)
  have iw' := iw.up iv' sz'
  refine lv_aload_n hx hb dL_law_410 rfl (lv_at hl 1 rfl) ?_
  refine lv_aload_n hx hb dL_law_411 rfl (lv_at hl 0 rfl) ?_
  refine lv_iload hx hb dL_law_412 (lv_at hl 4 rfl) ?_
  refine lv_iconst (v := 1) hx hb dL_law_414 (by decide) ?_
  refine lv_iadd hx hb dL_law_415 ?_
  refine va_sld hx hb hX hbl hbA hS hv1 dL_law_416 ?_
  refine lv_aload_n hx hb dL_law_417 rfl (lv_at hl 0 rfl) ?_
  refine lv_iload hx hb dL_law_418 (lv_at hl 4 rfl) ?_
  refine lv_iconst (v := 2) hx hb dL_law_420 (by decide) ?_
  refine lv_iadd hx hb dL_law_421 ?_
  refine va_sld hx hb hX hbl hbA hS hv2 dL_law_422 ?_
  refine lv_aload_n hx hb dL_law_423 rfl (lv_at hl 0 rfl) ?_
  refine lv_iload hx hb dL_law_424 (lv_at hl 4 rfl) ?_
  refine lv_iconst (v := 3) hx hb dL_law_426 (by decide) ?_
  refine lv_iadd hx hb dL_law_427 ?_
  refine va_sld hx hb hX hbl hbA hS hv3 dL_law_428 ?_
  refine lv_aload_n hx hb dL_law_429 rfl (lv_at hl 3 rfl) ?_
  have hk : ∀ k, a1 = .inl k → k = 1 ∨ k = 2 := fun k hq => AN.k an hq
  refine cLW (av := [.ref (x 0), .int (xs (nI i + 1).toNatClampNeg), .int (xs (nI i + 2).toNatClampNeg), .int (xs (nI i + 3).toNatClampNeg), .ref o]) (rest := []) (st1 := [.int (lk 1 a1)]) (ret := some (.int (lk 1 a1))) (wn := LWd x a o cy F D P SL SV T WY md (lo g a1)) hx hb hml hown htg hN hK hE hC (c_L_corner l dC dI cy hlt x F (xs (nI i + 1).toNatClampNeg) (xs (nI i + 2).toNatClampNeg) (xs (nI i + 3).toNatClampNeg) a1 e1 o g hk) ⟨gw613, gw614, gw58, cw_corner⟩ hdL_corner rfl ⟨⟨Nat.le_of_ble_eq_true rfl, Nat.le_of_ble_eq_true rfl⟩, (show k1 + 2 ≤ 601024 by omega), (show k2 + 12 ≤ 7293034 by omega)⟩ hP hD hS hA (pm_sfL _ _ _ _ _ _ _ _ _ _ _) (pn_sfL _ _ _ _ _ _ _ _ _ _ _) hl.1 rfl (Nat.le_of_ble_eq_true rfl) rfl dL_law_430 (fun H locs hP hD hS => ?_)
  refine W.eq (g2 := F0 m 433 ls [.int (lk 1 a1)]) rfl ?_
  refine lv_istore (lv' := [(5, .int (lk 1 a1)), (0, .ref b), (1, .ref (x 0)), (2, .ref (a 0)), (3, .ref o), (4, .int (nI i))]) hx hb dL_law_433 hl (by decide) rfl (fun ls hl => ?_)
  refine lv_aload_n hx hb dL_law_435 rfl (lv_at hl 3 rfl) ?_
  refine lv_aload_n hx hb dL_law_436 rfl (lv_at hl 1 rfl) ?_
  refine lv_iload hx hb dL_law_437 (lv_at hl 5 rfl) ?_
  refine lv_iconst (v := 1) hx hb dL_law_439 (by decide) ?_
  refine lv_iadd hx hb dL_law_440 ?_
  refine va_sld hx hb hX hbl hbA hS hv1 dL_law_441 ?_
  refine lv_aload_n hx hb dL_law_442 rfl (lv_at hl 1 rfl) ?_
  refine lv_iload hx hb dL_law_443 (lv_at hl 5 rfl) ?_
  refine lv_iconst (v := 2) hx hb dL_law_445 (by decide) ?_
  refine lv_iadd hx hb dL_law_446 ?_
  refine va_sld hx hb hX hbl hbA hS hv2 dL_law_447 ?_
  refine lv_aload_n hx hb dL_law_448 rfl (lv_at hl 1 rfl) ?_
  refine lv_iload hx hb dL_law_449 (lv_at hl 5 rfl) ?_
  refine lv_iconst (v := 3) hx hb dL_law_451 (by decide) ?_
  refine lv_iadd hx hb dL_law_452 ?_
  refine va_sld hx hb hX hbl hbA hS hv3 dL_law_453 ?_
  refine cVp (av := [.int (xs (nI i + 1).toNatClampNeg), .int (xs (nI i + 2).toNatClampNeg), .int (xs (nI i + 3).toNatClampNeg)]) (rest := []) (st1 := [.int v]) (k1 := k1 + 2) (k2 := k2 + 12) (wn := LWd x a o cy F D P SL SV T WY m' (lo g a1)) (ci := 4) (q0 := 0) hx hb hml hown htg hN hK (c_X9_corner l dC dI cy a md (xs (nI i + 1).toNatClampNeg) (xs (nI i + 2).toNatClampNeg) (xs (nI i + 3).toNatClampNeg) (v, m') e2) (g_V gw1098 gw1099 gw1100 gw63 gw1101) hdV_X9_corner rfl ⟨⟨Nat.le_of_ble_eq_true rfl, Nat.le_of_ble_eq_true rfl⟩, (show k1 + 2 ≤ 601024 by omega), (show k2 + 12 ≤ 7293034 by omega)⟩ hP hD hS hA ⟨rfl, rfl⟩ rfl (pm_mo _ _ _ _ _ _ _ _ _ _ _) (pn_mo _ _ _ _ _ _ _ _ _ _ _) hl.1 rfl (Nat.le_of_ble_eq_true rfl) rfl rfl rfl dL_law_454 (fun H locs hP hD hS => ?_)
  refine lv_istore (lv' := [(6, .int v), (5, .int (lk 1 a1)), (0, .ref b), (1, .ref (x 0)), (2, .ref (a 0)), (3, .ref o), (4, .int (nI i))]) hx hb dL_law_457 hl (by decide) rfl (fun ls hl => ?_)
  refine lv_aload_n hx hb dL_law_459 rfl (lv_at hl 4 rfl) ?_
  refine cVp (av := []) (rest := []) (st1 := [.int (m_thrown m')]) (k1 := k1 + 2) (k2 := k2 + 12) (wn := LWd x a o cy F D P SL SV T WY m' (lo g a1)) (ci := 4) (q0 := 0) hx hb hml hown htg hN hK (c_X9_thrown l dC dI cy a m' (m_thrown m') rfl) (g_V gw905 gw906 gw907 gw63 gw908) hdV_X9_thrown rfl ⟨⟨Nat.le_of_ble_eq_true rfl, Nat.le_of_ble_eq_true rfl⟩, (show k1 + 2 ≤ 601024 by omega), (show k2 + 12 ≤ 7293034 by omega)⟩ hP hD hS hA ⟨rfl, rfl⟩ rfl (pm_mo _ _ _ _ _ _ _ _ _ _ _) (pn_mo _ _ _ _ _ _ _ _ _ _ _) hl.1 rfl (Nat.le_of_ble_eq_true rfl) rfl rfl rfl dL_law_460 (fun H locs hP hD hS => ?_)
  refine lv_iload hx hb dL_law_463 (lv_at hl 1 rfl) ?_
  refine lv_icmp_eq (tgt := 470) hx hb dL_law_465 (by decide) (fun _ => ?_) (fun z => absurd (AN.t an) z)
  refine lv_iload hx hb dL_law_470 (lv_at hl 1 rfl) ?_
  have fin : W p l e room_1 s m #[Value.ref b] below meth c H locs (k1 + 2) (k2 + 12) Q (F0 m 487 ls []) := by
    refine lv_goto (tgt := 1741) hx hb dL_law_487 (by decide) ?_
    refine W.widen (k := k1 + 4) (n := k2 + 24) (by omega) (by omega) ?_
    exact K _ _ _ _ _ _ _ _ _ H locs ls iw' hP hD hS (lv_sub hl [2, 3, 4, 5, 6] rfl)
  refine lv_if_ne (tgt := 487) hx hb dL_law_472 (by decide) (fun _ => fin) (fun z0 => ?_)
  refine lv_aload_n hx hb dL_law_475 rfl (lv_at hl 5 rfl) ?_
  refine lv_iconst (v := 0) hx hb dL_law_476 (by decide) ?_
  refine va_lald hx hb hK hP 0 4 rfl rfl vp01 dL_law_477 ?_
  refine lv_iload hx hb dL_law_478 (lv_at hl 0 rfl) ?_
  refine lv_i2l (v := v.toInt64) hx hb dL_law_480 rfl ?_
  refine W.lcmp hx hb dL_law_481 ?_
  refine lv_if_eq (tgt := 487) hx hb dL_law_482 (by decide) (fun _ => fin) (fun z => absurd ((lg_cmp_eq _ _).mpr (AN.lo an z0)) z)
set_option maxHeartbeats 4000000 in
set_option maxRecDepth 100000 in
theorem law_point {p : Program} {l : Launch} {e : Env} {s : State} {m : MethodId} {below : List Frame} {meth : Method} {c : Code} {dC : Nat → ClassId} {dI : Nat → Nat → Nat} {cy : Nat → ClassId} {b L : Nat} {xs : Nat → Int32} (hL : L ≤ 2560) (C0 : lw_At p s m meth c b L xs) (hlt : l.stackTraces = false) (hN : NW s) (hC : NC s) (hE : EX (fun q : Nat => s.heap.size ≤ q) s s.heap) (hK : va_K (dC, dI) vwCl (TY cy) s) {i : Nat} (hi : i + 5 ≤ L)
    {x a : Nat → Nat} {o : Nat} {F D : Fig} {P : PastS} {SL : Nat → Fig} {SV : Nat → Int32} {T : TextS} {WY : Nat → Int32} {md : Mod} {g : Nat → Int64} (iw : IW F P SL SV T md) {H : Heap} {locs : List Loc} {k1 k2 : Nat} (hr1 : k1 + 4 ≤ 601024) (hr2 : k2 + 24 ≤ 7293034)
    (hP : va_P (dC, dI) vwCl (LWd x a o cy F D P SL SV T WY md g) H) (hD : va_D (fun q : Nat => s.heap.size ≤ q) (LWd x a o cy F D P SL SV T WY md g)) (hS : va_S (fun q : Nat => s.heap.size ≤ q) s.heap H locs) {ls : Array Slot} (hl : lv_has ls 7 [(0, .ref b), (1, .ref (x 0)), (2, .ref (a 0)), (3, .ref o), (4, .int (nI i))]) {Q : State → Prop}
    (K : LK p l e s m below meth c (dC, dI) cy b i x a o k1 k2 Q) : W p l e room_1 s m #[Value.ref b] below meth c H locs k1 k2 Q (F0 m 490 ls []) := by
  obtain ⟨hx, hb, hr, hml, hown, hts, hX, hbl, hlocks, hgv⟩ := C0
  have htg : ∀ w ∈ GW, w.before #[Value.ref b] s = true := fun w hw => hts w (List.mem_filter.mp hw).1
  have hA : ∀ q : Nat, s.heap.size ≤ q → (fun q : Nat => s.heap.size ≤ q) q := fun _ h => h
  have hbA : ¬ (fun q : Nat => s.heap.size ≤ q) b := Nat.not_le.mpr hbl
  obtain ⟨hv1, hv2, hv3, hv4⟩ := lw_in5 hL hi
  obtain ⟨a1, v, m', e1, e2, iv', sz', an⟩ := o_point iw.1 (xs (nI i + 1).toNatClampNeg) (xs (nI i + 2).toNatClampNeg)
  have iw' := iw.up iv' sz'
  refine lv_aload_n hx hb dL_law_490 rfl (lv_at hl 1 rfl) ?_
  refine lv_aload_n hx hb dL_law_491 rfl (lv_at hl 0 rfl) ?_
  refine lv_iload hx hb dL_law_492 (lv_at hl 4 rfl) ?_
  refine lv_iconst (v := 1) hx hb dL_law_494 (by decide) ?_
  refine lv_iadd hx hb dL_law_495 ?_
  refine va_sld hx hb hX hbl hbA hS hv1 dL_law_496 ?_
  refine lv_aload_n hx hb dL_law_497 rfl (lv_at hl 0 rfl) ?_
  refine lv_iload hx hb dL_law_498 (lv_at hl 4 rfl) ?_
  refine lv_iconst (v := 2) hx hb dL_law_500 (by decide) ?_
  refine lv_iadd hx hb dL_law_501 ?_
  refine va_sld hx hb hX hbl hbA hS hv2 dL_law_502 ?_
  refine lv_aload_n hx hb dL_law_503 rfl (lv_at hl 3 rfl) ?_
  have hk : ∀ k, a1 = .inl k → k = 2 := fun k hq => A1.k an hq
  refine cLW (av := [.ref (x 0), .int (xs (nI i + 1).toNatClampNeg), .int (xs (nI i + 2).toNatClampNeg), .ref o]) (rest := []) (st1 := [.int (lk 2 a1)]) (ret := some (.int (lk 2 a1))) (wn := LWd x a o cy F D P SL SV T WY md (lo g a1)) hx hb hml hown htg hN hK hE hC (c_L_point l dC dI cy hlt x F (xs (nI i + 1).toNatClampNeg) (xs (nI i + 2).toNatClampNeg) a1 e1 o g hk) ⟨gw636, gw637, gw58, cw_point⟩ hdL_point rfl ⟨⟨Nat.le_of_ble_eq_true rfl, Nat.le_of_ble_eq_true rfl⟩, (show k1 + 1 ≤ 601024 by omega), (show k2 + 6 ≤ 7293034 by omega)⟩ hP hD hS hA (pm_sfL _ _ _ _ _ _ _ _ _ _ _) (pn_sfL _ _ _ _ _ _ _ _ _ _ _) hl.1 rfl (Nat.le_of_ble_eq_true rfl) rfl dL_law_504 (fun H locs hP hD hS => ?_)
  refine W.eq (g2 := F0 m 507 ls [.int (lk 2 a1)]) rfl ?_
  refine lv_istore (lv' := [(5, .int (lk 2 a1)), (0, .ref b), (1, .ref (x 0)), (2, .ref (a 0)), (3, .ref o), (4, .int (nI i))]) hx hb dL_law_507 hl (by decide) rfl (fun ls hl => ?_)
  refine lv_aload_n hx hb dL_law_509 rfl (lv_at hl 3 rfl) ?_
  refine lv_aload_n hx hb dL_law_510 rfl (lv_at hl 1 rfl) ?_
  refine lv_iload hx hb dL_law_511 (lv_at hl 5 rfl) ?_
  refine lv_iconst (v := 1) hx hb dL_law_513 (by decide) ?_
  refine lv_iadd hx hb dL_law_514 ?_
  refine va_sld hx hb hX hbl hbA hS hv1 dL_law_515 ?_
  refine lv_aload_n hx hb dL_law_516 rfl (lv_at hl 1 rfl) ?_
  refine lv_iload hx hb dL_law_517 (lv_at hl 5 rfl) ?_
  refine lv_iconst (v := 2) hx hb dL_law_519 (by decide) ?_
  refine lv_iadd hx hb dL_law_520 ?_
  refine va_sld hx hb hX hbl hbA hS hv2 dL_law_521 ?_
  refine cVp (av := [.int (xs (nI i + 1).toNatClampNeg), .int (xs (nI i + 2).toNatClampNeg)]) (rest := []) (st1 := [.int v]) (k1 := k1 + 1) (k2 := k2 + 6) (wn := LWd x a o cy F D P SL SV T WY m' (lo g a1)) (ci := 4) (q0 := 0) hx hb hml hown htg hN hK (c_X9_point l dC dI cy a md (xs (nI i + 1).toNatClampNeg) (xs (nI i + 2).toNatClampNeg) (v, m') e2) (g_V gw1106 gw1107 gw1108 gw63 gw1109) hdV_X9_point rfl ⟨⟨Nat.le_of_ble_eq_true rfl, Nat.le_of_ble_eq_true rfl⟩, (show k1 + 1 ≤ 601024 by omega), (show k2 + 6 ≤ 7293034 by omega)⟩ hP hD hS hA ⟨rfl, rfl⟩ rfl (pm_mo _ _ _ _ _ _ _ _ _ _ _) (pn_mo _ _ _ _ _ _ _ _ _ _ _) hl.1 rfl (Nat.le_of_ble_eq_true rfl) rfl rfl rfl dL_law_522 (fun H locs hP hD hS => ?_)
  refine lv_istore (lv' := [(6, .int v), (5, .int (lk 2 a1)), (0, .ref b), (1, .ref (x 0)), (2, .ref (a 0)), (3, .ref o), (4, .int (nI i))]) hx hb dL_law_525 hl (by decide) rfl (fun ls hl => ?_)
  refine lv_aload_n hx hb dL_law_527 rfl (lv_at hl 4 rfl) ?_
  refine cVp (av := []) (rest := []) (st1 := [.int (m_thrown m')]) (k1 := k1 + 1) (k2 := k2 + 6) (wn := LWd x a o cy F D P SL SV T WY m' (lo g a1)) (ci := 4) (q0 := 0) hx hb hml hown htg hN hK (c_X9_thrown l dC dI cy a m' (m_thrown m') rfl) (g_V gw905 gw906 gw907 gw63 gw908) hdV_X9_thrown rfl ⟨⟨Nat.le_of_ble_eq_true rfl, Nat.le_of_ble_eq_true rfl⟩, (show k1 + 1 ≤ 601024 by omega), (show k2 + 6 ≤ 7293034 by omega)⟩ hP hD hS hA ⟨rfl, rfl⟩ rfl (pm_mo _ _ _ _ _ _ _ _ _ _ _) (pn_mo _ _ _ _ _ _ _ _ _ _ _) hl.1 rfl (Nat.le_of_ble_eq_true rfl) rfl rfl rfl dL_law_528 (fun H locs hP hD hS => ?_)
  refine lv_iload hx hb dL_law_531 (lv_at hl 1 rfl) ?_
  refine lv_icmp_eq (tgt := 538) hx hb dL_law_533 (by decide) (fun _ => ?_) (fun z => absurd (A1.t an) z)
  refine lv_iload hx hb dL_law_538 (lv_at hl 1 rfl) ?_
  have fin : W p l e room_1 s m #[Value.ref b] below meth c H locs (k1 + 1) (k2 + 6) Q (F0 m 555 ls []) := by
    refine lv_goto (tgt := 1741) hx hb dL_law_555 (by decide) ?_
    refine W.widen (k := k1 + 4) (n := k2 + 24) (by omega) (by omega) ?_
    exact K _ _ _ _ _ _ _ _ _ H locs ls iw' hP hD hS (lv_sub hl [2, 3, 4, 5, 6] rfl)
  refine lv_if_ne (tgt := 555) hx hb dL_law_540 (by decide) (fun _ => fin) (fun z0 => ?_)
  refine lv_aload_n hx hb dL_law_543 rfl (lv_at hl 5 rfl) ?_
  refine lv_iconst (v := 0) hx hb dL_law_544 (by decide) ?_
  refine va_lald hx hb hK hP 0 4 rfl rfl vp01 dL_law_545 ?_
  refine lv_iload hx hb dL_law_546 (lv_at hl 0 rfl) ?_
  refine lv_i2l (v := v.toInt64) hx hb dL_law_548 rfl ?_
  refine W.lcmp hx hb dL_law_549 ?_
  refine lv_if_eq (tgt := 555) hx hb dL_law_550 (by decide) (fun _ => fin) (fun z => absurd ((lg_cmp_eq _ _).mpr (A1.lo an z0)) z)
set_option maxHeartbeats 4000000 in
set_option maxRecDepth 100000 in
theorem law_sees {p : Program} {l : Launch} {e : Env} {s : State} {m : MethodId} {below : List Frame} {meth : Method} {c : Code} {dC : Nat → ClassId} {dI : Nat → Nat → Nat} {cy : Nat → ClassId} {b L : Nat} {xs : Nat → Int32} (hL : L ≤ 2560) (C0 : lw_At p s m meth c b L xs) (hlt : l.stackTraces = false) (hN : NW s) (hC : NC s) (hE : EX (fun q : Nat => s.heap.size ≤ q) s s.heap) (hK : va_K (dC, dI) vwCl (TY cy) s) {i : Nat} (hi : i + 5 ≤ L)
    {x a : Nat → Nat} {o : Nat} {F D : Fig} {P : PastS} {SL : Nat → Fig} {SV : Nat → Int32} {T : TextS} {WY : Nat → Int32} {md : Mod} {g : Nat → Int64} (iw : IW F P SL SV T md) {H : Heap} {locs : List Loc} {k1 k2 : Nat} (hr1 : k1 + 4 ≤ 601024) (hr2 : k2 + 24 ≤ 7293034)
    (hP : va_P (dC, dI) vwCl (LWd x a o cy F D P SL SV T WY md g) H) (hD : va_D (fun q : Nat => s.heap.size ≤ q) (LWd x a o cy F D P SL SV T WY md g)) (hS : va_S (fun q : Nat => s.heap.size ≤ q) s.heap H locs) {ls : Array Slot} (hl : lv_has ls 7 [(0, .ref b), (1, .ref (x 0)), (2, .ref (a 0)), (3, .ref o), (4, .int (nI i))]) {Q : State → Prop}
    (K : LK p l e s m below meth c (dC, dI) cy b i x a o k1 k2 Q) : W p l e room_1 s m #[Value.ref b] below meth c H locs k1 k2 Q (F0 m 558 ls []) := by
  obtain ⟨hx, hb, hr, hml, hown, hts, hX, hbl, hlocks, hgv⟩ := C0
  have htg : ∀ w ∈ GW, w.before #[Value.ref b] s = true := fun w hw => hts w (List.mem_filter.mp hw).1
  have hA : ∀ q : Nat, s.heap.size ≤ q → (fun q : Nat => s.heap.size ≤ q) q := fun _ h => h
  have hbA : ¬ (fun q : Nat => s.heap.size ≤ q) b := Nat.not_le.mpr hbl
  obtain ⟨hv1, hv2, hv3, hv4⟩ := lw_in5 hL hi
  obtain ⟨a1, v, m', e1, e2, iv', sz', an⟩ := o_sees iw.1 (xs (nI i + 1).toNatClampNeg) (xs (nI i + 2).toNatClampNeg) (xs (nI i + 3).toNatClampNeg) (xs (nI i + 4).toNatClampNeg)
  have iw' := iw.up iv' sz'
  refine lv_aload_n hx hb dL_law_558 rfl (lv_at hl 1 rfl) ?_
  refine lv_aload_n hx hb dL_law_559 rfl (lv_at hl 0 rfl) ?_
  refine lv_iload hx hb dL_law_560 (lv_at hl 4 rfl) ?_
  refine lv_iconst (v := 1) hx hb dL_law_562 (by decide) ?_
  refine lv_iadd hx hb dL_law_563 ?_
  refine va_sld hx hb hX hbl hbA hS hv1 dL_law_564 ?_
  refine lv_aload_n hx hb dL_law_565 rfl (lv_at hl 0 rfl) ?_
  refine lv_iload hx hb dL_law_566 (lv_at hl 4 rfl) ?_
  refine lv_iconst (v := 2) hx hb dL_law_568 (by decide) ?_
  refine lv_iadd hx hb dL_law_569 ?_
  refine va_sld hx hb hX hbl hbA hS hv2 dL_law_570 ?_
  refine lv_aload_n hx hb dL_law_571 rfl (lv_at hl 0 rfl) ?_
  refine lv_iload hx hb dL_law_572 (lv_at hl 4 rfl) ?_
  refine lv_iconst (v := 3) hx hb dL_law_574 (by decide) ?_
  refine lv_iadd hx hb dL_law_575 ?_
  refine va_sld hx hb hX hbl hbA hS hv3 dL_law_576 ?_
  refine lv_aload_n hx hb dL_law_577 rfl (lv_at hl 0 rfl) ?_
  refine lv_iload hx hb dL_law_578 (lv_at hl 4 rfl) ?_
  refine lv_iconst (v := 4) hx hb dL_law_580 (by decide) ?_
  refine lv_iadd hx hb dL_law_581 ?_
  refine va_sld hx hb hX hbl hbA hS hv4 dL_law_582 ?_
  refine lv_aload_n hx hb dL_law_583 rfl (lv_at hl 3 rfl) ?_
  have hk : ∀ k, a1 = .inl k → k = 1 := fun k hq => A1.k an hq
  refine cLW (av := [.ref (x 0), .int (xs (nI i + 1).toNatClampNeg), .int (xs (nI i + 2).toNatClampNeg), .int (xs (nI i + 3).toNatClampNeg), .int (xs (nI i + 4).toNatClampNeg), .ref o]) (rest := []) (st1 := [.int (lk 1 a1)]) (ret := some (.int (lk 1 a1))) (wn := LWd x a o cy F D P SL SV T WY md (loS g a1)) hx hb hml hown htg hN hK hE hC (c_L_sees l dC dI cy hlt x F (xs (nI i + 1).toNatClampNeg) (xs (nI i + 2).toNatClampNeg) (xs (nI i + 3).toNatClampNeg) (xs (nI i + 4).toNatClampNeg) a1 e1 o g hk) ⟨gw649, gw650, gw58, cw_sees⟩ hdL_sees rfl ⟨⟨Nat.le_of_ble_eq_true rfl, Nat.le_of_ble_eq_true rfl⟩, (show k1 + 2 ≤ 601024 by omega), (show k2 + 12 ≤ 7293034 by omega)⟩ hP hD hS hA (pm_sfL _ _ _ _ _ _ _ _ _ _ _) (pn_sfL _ _ _ _ _ _ _ _ _ _ _) hl.1 rfl (Nat.le_of_ble_eq_true rfl) rfl dL_law_584 (fun H locs hP hD hS => ?_)
  refine W.eq (g2 := F0 m 587 ls [.int (lk 1 a1)]) rfl ?_
  refine lv_istore (lv' := [(5, .int (lk 1 a1)), (0, .ref b), (1, .ref (x 0)), (2, .ref (a 0)), (3, .ref o), (4, .int (nI i))]) hx hb dL_law_587 hl (by decide) rfl (fun ls hl => ?_)
  refine lv_aload_n hx hb dL_law_589 rfl (lv_at hl 3 rfl) ?_
  refine lv_aload_n hx hb dL_law_590 rfl (lv_at hl 1 rfl) ?_
  refine lv_iload hx hb dL_law_591 (lv_at hl 5 rfl) ?_
  refine lv_iconst (v := 1) hx hb dL_law_593 (by decide) ?_
  refine lv_iadd hx hb dL_law_594 ?_
  refine va_sld hx hb hX hbl hbA hS hv1 dL_law_595 ?_
  refine lv_aload_n hx hb dL_law_596 rfl (lv_at hl 1 rfl) ?_
  refine lv_iload hx hb dL_law_597 (lv_at hl 5 rfl) ?_
  refine lv_iconst (v := 2) hx hb dL_law_599 (by decide) ?_
  refine lv_iadd hx hb dL_law_600 ?_
  refine va_sld hx hb hX hbl hbA hS hv2 dL_law_601 ?_
  refine lv_aload_n hx hb dL_law_602 rfl (lv_at hl 1 rfl) ?_
  refine lv_iload hx hb dL_law_603 (lv_at hl 5 rfl) ?_
  refine lv_iconst (v := 3) hx hb dL_law_605 (by decide) ?_
  refine lv_iadd hx hb dL_law_606 ?_
  refine va_sld hx hb hX hbl hbA hS hv3 dL_law_607 ?_
  refine lv_aload_n hx hb dL_law_608 rfl (lv_at hl 1 rfl) ?_
  refine lv_iload hx hb dL_law_609 (lv_at hl 5 rfl) ?_
  refine lv_iconst (v := 4) hx hb dL_law_611 (by decide) ?_
  refine lv_iadd hx hb dL_law_612 ?_
  refine va_sld hx hb hX hbl hbA hS hv4 dL_law_613 ?_
  refine cVp (av := [.int (xs (nI i + 1).toNatClampNeg), .int (xs (nI i + 2).toNatClampNeg), .int (xs (nI i + 3).toNatClampNeg), .int (xs (nI i + 4).toNatClampNeg)]) (rest := []) (st1 := [.int v]) (k1 := k1 + 2) (k2 := k2 + 12) (wn := LWd x a o cy F D P SL SV T WY m' (loS g a1)) (ci := 4) (q0 := 0) hx hb hml hown htg hN hK (c_X9_sees l dC dI cy a md (xs (nI i + 1).toNatClampNeg) (xs (nI i + 2).toNatClampNeg) (xs (nI i + 3).toNatClampNeg) (xs (nI i + 4).toNatClampNeg) (v, m') e2) (g_V gw1113 gw1114 gw1115 gw63 gw1116) hdV_X9_sees rfl ⟨⟨Nat.le_of_ble_eq_true rfl, Nat.le_of_ble_eq_true rfl⟩, (show k1 + 2 ≤ 601024 by omega), (show k2 + 12 ≤ 7293034 by omega)⟩ hP hD hS hA ⟨rfl, rfl⟩ rfl (pm_mo _ _ _ _ _ _ _ _ _ _ _) (pn_mo _ _ _ _ _ _ _ _ _ _ _) hl.1 rfl (Nat.le_of_ble_eq_true rfl) rfl rfl rfl dL_law_614 (fun H locs hP hD hS => ?_)
  refine lv_istore (lv' := [(6, .int v), (5, .int (lk 1 a1)), (0, .ref b), (1, .ref (x 0)), (2, .ref (a 0)), (3, .ref o), (4, .int (nI i))]) hx hb dL_law_617 hl (by decide) rfl (fun ls hl => ?_)
  refine lv_aload_n hx hb dL_law_619 rfl (lv_at hl 4 rfl) ?_
  refine cVp (av := []) (rest := []) (st1 := [.int (m_thrown m')]) (k1 := k1 + 2) (k2 := k2 + 12) (wn := LWd x a o cy F D P SL SV T WY m' (loS g a1)) (ci := 4) (q0 := 0) hx hb hml hown htg hN hK (c_X9_thrown l dC dI cy a m' (m_thrown m') rfl) (g_V gw905 gw906 gw907 gw63 gw908) hdV_X9_thrown rfl ⟨⟨Nat.le_of_ble_eq_true rfl, Nat.le_of_ble_eq_true rfl⟩, (show k1 + 2 ≤ 601024 by omega), (show k2 + 12 ≤ 7293034 by omega)⟩ hP hD hS hA ⟨rfl, rfl⟩ rfl (pm_mo _ _ _ _ _ _ _ _ _ _ _) (pn_mo _ _ _ _ _ _ _ _ _ _ _) hl.1 rfl (Nat.le_of_ble_eq_true rfl) rfl rfl rfl dL_law_620 (fun H locs hP hD hS => ?_)
  refine lv_iload hx hb dL_law_623 (lv_at hl 1 rfl) ?_
  refine lv_icmp_eq (tgt := 630) hx hb dL_law_625 (by decide) (fun _ => ?_) (fun z => absurd (A1.t an) z)
  refine lv_iload hx hb dL_law_630 (lv_at hl 1 rfl) ?_
  have fin : W p l e room_1 s m #[Value.ref b] below meth c H locs (k1 + 2) (k2 + 12) Q (F0 m 654 ls []) := by
    refine lv_goto (tgt := 1741) hx hb dL_law_654 (by decide) ?_
    refine W.widen (k := k1 + 4) (n := k2 + 24) (by omega) (by omega) ?_
    exact K _ _ _ _ _ _ _ _ _ H locs ls iw' hP hD hS (lv_sub hl [2, 3, 4, 5, 6] rfl)
  refine lv_if_ne (tgt := 654) hx hb dL_law_632 (by decide) (fun _ => fin) (fun z0 => ?_)
  refine lv_aload_n hx hb dL_law_635 rfl (lv_at hl 5 rfl) ?_
  refine lv_iconst (v := 0) hx hb dL_law_636 (by decide) ?_
  refine va_lald hx hb hK hP 0 4 rfl rfl vp01 dL_law_637 ?_
  refine lv_iload hx hb dL_law_638 (lv_at hl 0 rfl) ?_
  refine lv_if_eq (tgt := 647) hx hb dL_law_640 (by decide) (fun cv => ?_) (fun cv => ?_)
  · skip
    refine lv_lconst (v := 0) hx hb dL_law_647 (by decide) ?_
    refine W.lcmp hx hb dL_law_648 ?_
    refine lv_if_eq (tgt := 654) hx hb dL_law_649 (by decide) (fun _ => fin) (fun z => absurd ((lg_cmp_eq _ _).mpr (A1.loS an z0 (Or.inl ⟨cv, rfl⟩))) z)
  · skip
    refine lv_lconst (v := 1) hx hb dL_law_643 (by decide) ?_
    refine lv_goto (tgt := 648) hx hb dL_law_644 (by decide) ?_
    refine W.lcmp hx hb dL_law_648 ?_
    refine lv_if_eq (tgt := 654) hx hb dL_law_649 (by decide) (fun _ => fin) (fun z => absurd ((lg_cmp_eq _ _).mpr (A1.loS an z0 (Or.inr ⟨cv, rfl⟩))) z)
set_option maxHeartbeats 4000000 in
set_option maxRecDepth 100000 in
theorem law_move {p : Program} {l : Launch} {e : Env} {s : State} {m : MethodId} {below : List Frame} {meth : Method} {c : Code} {dC : Nat → ClassId} {dI : Nat → Nat → Nat} {cy : Nat → ClassId} {b L : Nat} {xs : Nat → Int32} (hL : L ≤ 2560) (C0 : lw_At p s m meth c b L xs) (hlt : l.stackTraces = false) (hN : NW s) (hC : NC s) (hE : EX (fun q : Nat => s.heap.size ≤ q) s s.heap) (hK : va_K (dC, dI) vwCl (TY cy) s) {i : Nat} (hi : i + 5 ≤ L)
    {x a : Nat → Nat} {o : Nat} {F D : Fig} {P : PastS} {SL : Nat → Fig} {SV : Nat → Int32} {T : TextS} {WY : Nat → Int32} {md : Mod} {g : Nat → Int64} (iw : IW F P SL SV T md) {H : Heap} {locs : List Loc} {k1 k2 : Nat} (hr1 : k1 + 4 ≤ 601024) (hr2 : k2 + 24 ≤ 7293034)
    (hP : va_P (dC, dI) vwCl (LWd x a o cy F D P SL SV T WY md g) H) (hD : va_D (fun q : Nat => s.heap.size ≤ q) (LWd x a o cy F D P SL SV T WY md g)) (hS : va_S (fun q : Nat => s.heap.size ≤ q) s.heap H locs) {ls : Array Slot} (hl : lv_has ls 7 [(0, .ref b), (1, .ref (x 0)), (2, .ref (a 0)), (3, .ref o), (4, .int (nI i))]) {Q : State → Prop}
    (K : LK p l e s m below meth c (dC, dI) cy b i x a o k1 k2 Q) : W p l e room_1 s m #[Value.ref b] below meth c H locs k1 k2 Q (F0 m 657 ls []) := by
  obtain ⟨hx, hb, hr, hml, hown, hts, hX, hbl, hlocks, hgv⟩ := C0
  have htg : ∀ w ∈ GW, w.before #[Value.ref b] s = true := fun w hw => hts w (List.mem_filter.mp hw).1
  have hA : ∀ q : Nat, s.heap.size ≤ q → (fun q : Nat => s.heap.size ≤ q) q := fun _ h => h
  have hbA : ¬ (fun q : Nat => s.heap.size ≤ q) b := Nat.not_le.mpr hbl
  obtain ⟨hv1, hv2, hv3, hv4⟩ := lw_in5 hL hi
  obtain ⟨a1, F', D', P', v, m', e1, e2, iv', sz', an⟩ := o_move iw.1 D (xs (nI i + 1).toNatClampNeg) (xs (nI i + 2).toNatClampNeg) (xs (nI i + 3).toNatClampNeg) (xs (nI i + 4).toNatClampNeg)
  have iw' := iw.up iv' sz'
  refine lv_aload_n hx hb dL_law_657 rfl (lv_at hl 1 rfl) ?_
  refine lv_aload_n hx hb dL_law_658 rfl (lv_at hl 0 rfl) ?_
  refine lv_iload hx hb dL_law_659 (lv_at hl 4 rfl) ?_
  refine lv_iconst (v := 1) hx hb dL_law_661 (by decide) ?_
  refine lv_iadd hx hb dL_law_662 ?_
  refine va_sld hx hb hX hbl hbA hS hv1 dL_law_663 ?_
  refine lv_aload_n hx hb dL_law_664 rfl (lv_at hl 0 rfl) ?_
  refine lv_iload hx hb dL_law_665 (lv_at hl 4 rfl) ?_
  refine lv_iconst (v := 2) hx hb dL_law_667 (by decide) ?_
  refine lv_iadd hx hb dL_law_668 ?_
  refine va_sld hx hb hX hbl hbA hS hv2 dL_law_669 ?_
  refine lv_aload_n hx hb dL_law_670 rfl (lv_at hl 0 rfl) ?_
  refine lv_iload hx hb dL_law_671 (lv_at hl 4 rfl) ?_
  refine lv_iconst (v := 3) hx hb dL_law_673 (by decide) ?_
  refine lv_iadd hx hb dL_law_674 ?_
  refine va_sld hx hb hX hbl hbA hS hv3 dL_law_675 ?_
  refine lv_aload_n hx hb dL_law_676 rfl (lv_at hl 0 rfl) ?_
  refine lv_iload hx hb dL_law_677 (lv_at hl 4 rfl) ?_
  refine lv_iconst (v := 4) hx hb dL_law_679 (by decide) ?_
  refine lv_iadd hx hb dL_law_680 ?_
  refine va_sld hx hb hX hbl hbA hS hv4 dL_law_681 ?_
  refine lv_aload_n hx hb dL_law_682 rfl (lv_at hl 3 rfl) ?_
  have hk : ∀ k, a1 = .inl k → k = 1 ∨ k = 3 := fun k hq => AN.k an hq
  refine cLW (av := [.ref (x 0), .int (xs (nI i + 1).toNatClampNeg), .int (xs (nI i + 2).toNatClampNeg), .int (xs (nI i + 3).toNatClampNeg), .int (xs (nI i + 4).toNatClampNeg), .ref o]) (rest := []) (st1 := [.int (lk 1 a1)]) (ret := some (.int (lk 1 a1))) (wn := LWd x a o cy F' D' P' SL SV T WY md (lo g a1)) hx hb hml hown htg hN hK hE hC (c_L_move l dC dI cy hlt x F D P (xs (nI i + 1).toNatClampNeg) (xs (nI i + 2).toNatClampNeg) (xs (nI i + 3).toNatClampNeg) (xs (nI i + 4).toNatClampNeg) (a1, F', D', P') e1 o g hk) ⟨gw657, gw658, gw58, cw_move⟩ hdL_move rfl ⟨⟨Nat.le_of_ble_eq_true rfl, Nat.le_of_ble_eq_true rfl⟩, (show k1 + 2 ≤ 601024 by omega), (show k2 + 12 ≤ 7293034 by omega)⟩ hP hD hS hA (pm_sfdpqL _ _ _ _ _ _ _ _ _ _ _) (pn_sfdpqL _ _ _ _ _ _ _ _ _ _ _) hl.1 rfl (Nat.le_of_ble_eq_true rfl) rfl dL_law_683 (fun H locs hP hD hS => ?_)
  refine W.eq (g2 := F0 m 686 ls [.int (lk 1 a1)]) rfl ?_
  refine lv_istore (lv' := [(5, .int (lk 1 a1)), (0, .ref b), (1, .ref (x 0)), (2, .ref (a 0)), (3, .ref o), (4, .int (nI i))]) hx hb dL_law_686 hl (by decide) rfl (fun ls hl => ?_)
  refine lv_aload_n hx hb dL_law_688 rfl (lv_at hl 3 rfl) ?_
  refine lv_aload_n hx hb dL_law_689 rfl (lv_at hl 1 rfl) ?_
  refine lv_iload hx hb dL_law_690 (lv_at hl 5 rfl) ?_
  refine lv_iconst (v := 1) hx hb dL_law_692 (by decide) ?_
  refine lv_iadd hx hb dL_law_693 ?_
  refine va_sld hx hb hX hbl hbA hS hv1 dL_law_694 ?_
  refine lv_aload_n hx hb dL_law_695 rfl (lv_at hl 1 rfl) ?_
  refine lv_iload hx hb dL_law_696 (lv_at hl 5 rfl) ?_
  refine lv_iconst (v := 2) hx hb dL_law_698 (by decide) ?_
  refine lv_iadd hx hb dL_law_699 ?_
  refine va_sld hx hb hX hbl hbA hS hv2 dL_law_700 ?_
  refine lv_aload_n hx hb dL_law_701 rfl (lv_at hl 1 rfl) ?_
  refine lv_iload hx hb dL_law_702 (lv_at hl 5 rfl) ?_
  refine lv_iconst (v := 3) hx hb dL_law_704 (by decide) ?_
  refine lv_iadd hx hb dL_law_705 ?_
  refine va_sld hx hb hX hbl hbA hS hv3 dL_law_706 ?_
  refine lv_aload_n hx hb dL_law_707 rfl (lv_at hl 1 rfl) ?_
  refine lv_iload hx hb dL_law_708 (lv_at hl 5 rfl) ?_
  refine lv_iconst (v := 4) hx hb dL_law_710 (by decide) ?_
  refine lv_iadd hx hb dL_law_711 ?_
  refine va_sld hx hb hX hbl hbA hS hv4 dL_law_712 ?_
  refine cVp (av := [.int (xs (nI i + 1).toNatClampNeg), .int (xs (nI i + 2).toNatClampNeg), .int (xs (nI i + 3).toNatClampNeg), .int (xs (nI i + 4).toNatClampNeg)]) (rest := []) (st1 := [.int v]) (k1 := k1 + 2) (k2 := k2 + 12) (wn := LWd x a o cy F' D' P' SL SV T WY m' (lo g a1)) (ci := 4) (q0 := 0) hx hb hml hown htg hN hK (c_X9_move l dC dI cy a md (xs (nI i + 1).toNatClampNeg) (xs (nI i + 2).toNatClampNeg) (xs (nI i + 3).toNatClampNeg) (xs (nI i + 4).toNatClampNeg) (v, m') e2) (g_V gw1117 gw1118 gw1119 gw63 gw1120) hdV_X9_move rfl ⟨⟨Nat.le_of_ble_eq_true rfl, Nat.le_of_ble_eq_true rfl⟩, (show k1 + 2 ≤ 601024 by omega), (show k2 + 12 ≤ 7293034 by omega)⟩ hP hD hS hA ⟨rfl, rfl⟩ rfl (pm_mo _ _ _ _ _ _ _ _ _ _ _) (pn_mo _ _ _ _ _ _ _ _ _ _ _) hl.1 rfl (Nat.le_of_ble_eq_true rfl) rfl rfl rfl dL_law_713 (fun H locs hP hD hS => ?_)
  refine lv_istore (lv' := [(6, .int v), (5, .int (lk 1 a1)), (0, .ref b), (1, .ref (x 0)), (2, .ref (a 0)), (3, .ref o), (4, .int (nI i))]) hx hb dL_law_716 hl (by decide) rfl (fun ls hl => ?_)
  refine lv_aload_n hx hb dL_law_718 rfl (lv_at hl 4 rfl) ?_
  refine cVp (av := []) (rest := []) (st1 := [.int (m_thrown m')]) (k1 := k1 + 2) (k2 := k2 + 12) (wn := LWd x a o cy F' D' P' SL SV T WY m' (lo g a1)) (ci := 4) (q0 := 0) hx hb hml hown htg hN hK (c_X9_thrown l dC dI cy a m' (m_thrown m') rfl) (g_V gw905 gw906 gw907 gw63 gw908) hdV_X9_thrown rfl ⟨⟨Nat.le_of_ble_eq_true rfl, Nat.le_of_ble_eq_true rfl⟩, (show k1 + 2 ≤ 601024 by omega), (show k2 + 12 ≤ 7293034 by omega)⟩ hP hD hS hA ⟨rfl, rfl⟩ rfl (pm_mo _ _ _ _ _ _ _ _ _ _ _) (pn_mo _ _ _ _ _ _ _ _ _ _ _) hl.1 rfl (Nat.le_of_ble_eq_true rfl) rfl rfl rfl dL_law_719 (fun H locs hP hD hS => ?_)
  refine lv_iload hx hb dL_law_722 (lv_at hl 1 rfl) ?_
  refine lv_icmp_eq (tgt := 729) hx hb dL_law_724 (by decide) (fun _ => ?_) (fun z => absurd (AN.t an) z)
  refine lv_iload hx hb dL_law_729 (lv_at hl 1 rfl) ?_
  have fin : W p l e room_1 s m #[Value.ref b] below meth c H locs (k1 + 2) (k2 + 12) Q (F0 m 746 ls []) := by
    refine lv_goto (tgt := 1741) hx hb dL_law_746 (by decide) ?_
    refine W.widen (k := k1 + 4) (n := k2 + 24) (by omega) (by omega) ?_
    exact K _ _ _ _ _ _ _ _ _ H locs ls iw' hP hD hS (lv_sub hl [2, 3, 4, 5, 6] rfl)
  refine lv_if_ne (tgt := 746) hx hb dL_law_731 (by decide) (fun _ => fin) (fun z0 => ?_)
  refine lv_aload_n hx hb dL_law_734 rfl (lv_at hl 5 rfl) ?_
  refine lv_iconst (v := 0) hx hb dL_law_735 (by decide) ?_
  refine va_lald hx hb hK hP 0 4 rfl rfl vp01 dL_law_736 ?_
  refine lv_iload hx hb dL_law_737 (lv_at hl 0 rfl) ?_
  refine lv_i2l (v := v.toInt64) hx hb dL_law_739 rfl ?_
  refine W.lcmp hx hb dL_law_740 ?_
  refine lv_if_eq (tgt := 746) hx hb dL_law_741 (by decide) (fun _ => fin) (fun z => absurd ((lg_cmp_eq _ _).mpr (AN.lo an z0)) z)
set_option maxHeartbeats 4000000 in
set_option maxRecDepth 100000 in
theorem law_insert {p : Program} {l : Launch} {e : Env} {s : State} {m : MethodId} {below : List Frame} {meth : Method} {c : Code} {dC : Nat → ClassId} {dI : Nat → Nat → Nat} {cy : Nat → ClassId} {b L : Nat} {xs : Nat → Int32} (hL : L ≤ 2560) (C0 : lw_At p s m meth c b L xs) (hlt : l.stackTraces = false) (hN : NW s) (hC : NC s) (hE : EX (fun q : Nat => s.heap.size ≤ q) s s.heap) (hK : va_K (dC, dI) vwCl (TY cy) s) {i : Nat} (hi : i + 5 ≤ L)
    {x a : Nat → Nat} {o : Nat} {F D : Fig} {P : PastS} {SL : Nat → Fig} {SV : Nat → Int32} {T : TextS} {WY : Nat → Int32} {md : Mod} {g : Nat → Int64} (iw : IW F P SL SV T md) {H : Heap} {locs : List Loc} {k1 k2 : Nat} (hr1 : k1 + 4 ≤ 601024) (hr2 : k2 + 24 ≤ 7293034)
    (hP : va_P (dC, dI) vwCl (LWd x a o cy F D P SL SV T WY md g) H) (hD : va_D (fun q : Nat => s.heap.size ≤ q) (LWd x a o cy F D P SL SV T WY md g)) (hS : va_S (fun q : Nat => s.heap.size ≤ q) s.heap H locs) {ls : Array Slot} (hl : lv_has ls 7 [(0, .ref b), (1, .ref (x 0)), (2, .ref (a 0)), (3, .ref o), (4, .int (nI i))]) {Q : State → Prop}
    (K : LK p l e s m below meth c (dC, dI) cy b i x a o k1 k2 Q) : W p l e room_1 s m #[Value.ref b] below meth c H locs k1 k2 Q (F0 m 749 ls []) := by
  obtain ⟨hx, hb, hr, hml, hown, hts, hX, hbl, hlocks, hgv⟩ := C0
  have htg : ∀ w ∈ GW, w.before #[Value.ref b] s = true := fun w hw => hts w (List.mem_filter.mp hw).1
  have hA : ∀ q : Nat, s.heap.size ≤ q → (fun q : Nat => s.heap.size ≤ q) q := fun _ h => h
  have hbA : ¬ (fun q : Nat => s.heap.size ≤ q) b := Nat.not_le.mpr hbl
  obtain ⟨hv1, hv2, hv3, hv4⟩ := lw_in5 hL hi
  obtain ⟨a1, F', D', P', v, m', e1, e2, iv', sz', an⟩ := o_insert iw.1 D (xs (nI i + 1).toNatClampNeg) (xs (nI i + 2).toNatClampNeg) (xs (nI i + 3).toNatClampNeg) (xs (nI i + 4).toNatClampNeg)
  have iw' := iw.up iv' sz'
  refine lv_aload_n hx hb dL_law_749 rfl (lv_at hl 1 rfl) ?_
  refine lv_aload_n hx hb dL_law_750 rfl (lv_at hl 0 rfl) ?_
  refine lv_iload hx hb dL_law_751 (lv_at hl 4 rfl) ?_
  refine lv_iconst (v := 1) hx hb dL_law_753 (by decide) ?_
  refine lv_iadd hx hb dL_law_754 ?_
  refine va_sld hx hb hX hbl hbA hS hv1 dL_law_755 ?_
  refine lv_aload_n hx hb dL_law_756 rfl (lv_at hl 0 rfl) ?_
  refine lv_iload hx hb dL_law_757 (lv_at hl 4 rfl) ?_
  refine lv_iconst (v := 2) hx hb dL_law_759 (by decide) ?_
  refine lv_iadd hx hb dL_law_760 ?_
  refine va_sld hx hb hX hbl hbA hS hv2 dL_law_761 ?_
  refine lv_aload_n hx hb dL_law_762 rfl (lv_at hl 0 rfl) ?_
  refine lv_iload hx hb dL_law_763 (lv_at hl 4 rfl) ?_
  refine lv_iconst (v := 3) hx hb dL_law_765 (by decide) ?_
  refine lv_iadd hx hb dL_law_766 ?_
  refine va_sld hx hb hX hbl hbA hS hv3 dL_law_767 ?_
  refine lv_aload_n hx hb dL_law_768 rfl (lv_at hl 0 rfl) ?_
  refine lv_iload hx hb dL_law_769 (lv_at hl 4 rfl) ?_
  refine lv_iconst (v := 4) hx hb dL_law_771 (by decide) ?_
  refine lv_iadd hx hb dL_law_772 ?_
  refine va_sld hx hb hX hbl hbA hS hv4 dL_law_773 ?_
  refine lv_aload_n hx hb dL_law_774 rfl (lv_at hl 3 rfl) ?_
  have hk : ∀ k, a1 = .inl k → k = 1 ∨ k = 3 := fun k hq => AN.k an hq
  refine cLW (av := [.ref (x 0), .int (xs (nI i + 1).toNatClampNeg), .int (xs (nI i + 2).toNatClampNeg), .int (xs (nI i + 3).toNatClampNeg), .int (xs (nI i + 4).toNatClampNeg), .ref o]) (rest := []) (st1 := [.int (lk 1 a1)]) (ret := some (.int (lk 1 a1))) (wn := LWd x a o cy F' D' P' SL SV T WY md (lo g a1)) hx hb hml hown htg hN hK hE hC (c_L_insert l dC dI cy hlt x F D P (xs (nI i + 1).toNatClampNeg) (xs (nI i + 2).toNatClampNeg) (xs (nI i + 3).toNatClampNeg) (xs (nI i + 4).toNatClampNeg) (a1, F', D', P') e1 o g hk) ⟨gw666, gw667, gw58, cw_insert⟩ hdL_insert rfl ⟨⟨Nat.le_of_ble_eq_true rfl, Nat.le_of_ble_eq_true rfl⟩, (show k1 + 2 ≤ 601024 by omega), (show k2 + 12 ≤ 7293034 by omega)⟩ hP hD hS hA (pm_sfdpqL _ _ _ _ _ _ _ _ _ _ _) (pn_sfdpqL _ _ _ _ _ _ _ _ _ _ _) hl.1 rfl (Nat.le_of_ble_eq_true rfl) rfl dL_law_775 (fun H locs hP hD hS => ?_)
  refine W.eq (g2 := F0 m 778 ls [.int (lk 1 a1)]) rfl ?_
  refine lv_istore (lv' := [(5, .int (lk 1 a1)), (0, .ref b), (1, .ref (x 0)), (2, .ref (a 0)), (3, .ref o), (4, .int (nI i))]) hx hb dL_law_778 hl (by decide) rfl (fun ls hl => ?_)
  refine lv_aload_n hx hb dL_law_780 rfl (lv_at hl 3 rfl) ?_
  refine lv_aload_n hx hb dL_law_781 rfl (lv_at hl 1 rfl) ?_
  refine lv_iload hx hb dL_law_782 (lv_at hl 5 rfl) ?_
  refine lv_iconst (v := 1) hx hb dL_law_784 (by decide) ?_
  refine lv_iadd hx hb dL_law_785 ?_
  refine va_sld hx hb hX hbl hbA hS hv1 dL_law_786 ?_
  refine lv_aload_n hx hb dL_law_787 rfl (lv_at hl 1 rfl) ?_
  refine lv_iload hx hb dL_law_788 (lv_at hl 5 rfl) ?_
  refine lv_iconst (v := 2) hx hb dL_law_790 (by decide) ?_
  refine lv_iadd hx hb dL_law_791 ?_
  refine va_sld hx hb hX hbl hbA hS hv2 dL_law_792 ?_
  refine lv_aload_n hx hb dL_law_793 rfl (lv_at hl 1 rfl) ?_
  refine lv_iload hx hb dL_law_794 (lv_at hl 5 rfl) ?_
  refine lv_iconst (v := 3) hx hb dL_law_796 (by decide) ?_
  refine lv_iadd hx hb dL_law_797 ?_
  refine va_sld hx hb hX hbl hbA hS hv3 dL_law_798 ?_
  refine lv_aload_n hx hb dL_law_799 rfl (lv_at hl 1 rfl) ?_
  refine lv_iload hx hb dL_law_800 (lv_at hl 5 rfl) ?_
  refine lv_iconst (v := 4) hx hb dL_law_802 (by decide) ?_
  refine lv_iadd hx hb dL_law_803 ?_
  refine va_sld hx hb hX hbl hbA hS hv4 dL_law_804 ?_
  refine cVp (av := [.int (xs (nI i + 1).toNatClampNeg), .int (xs (nI i + 2).toNatClampNeg), .int (xs (nI i + 3).toNatClampNeg), .int (xs (nI i + 4).toNatClampNeg)]) (rest := []) (st1 := [.int v]) (k1 := k1 + 2) (k2 := k2 + 12) (wn := LWd x a o cy F' D' P' SL SV T WY m' (lo g a1)) (ci := 4) (q0 := 0) hx hb hml hown htg hN hK (c_X9_insert l dC dI cy a md (xs (nI i + 1).toNatClampNeg) (xs (nI i + 2).toNatClampNeg) (xs (nI i + 3).toNatClampNeg) (xs (nI i + 4).toNatClampNeg) (v, m') e2) (g_V gw1137 gw1138 gw1139 gw63 gw1140) hdV_X9_insert rfl ⟨⟨Nat.le_of_ble_eq_true rfl, Nat.le_of_ble_eq_true rfl⟩, (show k1 + 2 ≤ 601024 by omega), (show k2 + 12 ≤ 7293034 by omega)⟩ hP hD hS hA ⟨rfl, rfl⟩ rfl (pm_mo _ _ _ _ _ _ _ _ _ _ _) (pn_mo _ _ _ _ _ _ _ _ _ _ _) hl.1 rfl (Nat.le_of_ble_eq_true rfl) rfl rfl rfl dL_law_805 (fun H locs hP hD hS => ?_)
  refine lv_istore (lv' := [(6, .int v), (5, .int (lk 1 a1)), (0, .ref b), (1, .ref (x 0)), (2, .ref (a 0)), (3, .ref o), (4, .int (nI i))]) hx hb dL_law_808 hl (by decide) rfl (fun ls hl => ?_)
  refine lv_aload_n hx hb dL_law_810 rfl (lv_at hl 4 rfl) ?_
  refine cVp (av := []) (rest := []) (st1 := [.int (m_thrown m')]) (k1 := k1 + 2) (k2 := k2 + 12) (wn := LWd x a o cy F' D' P' SL SV T WY m' (lo g a1)) (ci := 4) (q0 := 0) hx hb hml hown htg hN hK (c_X9_thrown l dC dI cy a m' (m_thrown m') rfl) (g_V gw905 gw906 gw907 gw63 gw908) hdV_X9_thrown rfl ⟨⟨Nat.le_of_ble_eq_true rfl, Nat.le_of_ble_eq_true rfl⟩, (show k1 + 2 ≤ 601024 by omega), (show k2 + 12 ≤ 7293034 by omega)⟩ hP hD hS hA ⟨rfl, rfl⟩ rfl (pm_mo _ _ _ _ _ _ _ _ _ _ _) (pn_mo _ _ _ _ _ _ _ _ _ _ _) hl.1 rfl (Nat.le_of_ble_eq_true rfl) rfl rfl rfl dL_law_811 (fun H locs hP hD hS => ?_)
  refine lv_iload hx hb dL_law_814 (lv_at hl 1 rfl) ?_
  refine lv_icmp_eq (tgt := 821) hx hb dL_law_816 (by decide) (fun _ => ?_) (fun z => absurd (AN.t an) z)
  refine lv_iload hx hb dL_law_821 (lv_at hl 1 rfl) ?_
  have fin : W p l e room_1 s m #[Value.ref b] below meth c H locs (k1 + 2) (k2 + 12) Q (F0 m 838 ls []) := by
    refine lv_goto (tgt := 1741) hx hb dL_law_838 (by decide) ?_
    refine W.widen (k := k1 + 4) (n := k2 + 24) (by omega) (by omega) ?_
    exact K _ _ _ _ _ _ _ _ _ H locs ls iw' hP hD hS (lv_sub hl [2, 3, 4, 5, 6] rfl)
  refine lv_if_ne (tgt := 838) hx hb dL_law_823 (by decide) (fun _ => fin) (fun z0 => ?_)
  refine lv_aload_n hx hb dL_law_826 rfl (lv_at hl 5 rfl) ?_
  refine lv_iconst (v := 0) hx hb dL_law_827 (by decide) ?_
  refine va_lald hx hb hK hP 0 4 rfl rfl vp01 dL_law_828 ?_
  refine lv_iload hx hb dL_law_829 (lv_at hl 0 rfl) ?_
  refine lv_i2l (v := v.toInt64) hx hb dL_law_831 rfl ?_
  refine W.lcmp hx hb dL_law_832 ?_
  refine lv_if_eq (tgt := 838) hx hb dL_law_833 (by decide) (fun _ => fin) (fun z => absurd ((lg_cmp_eq _ _).mpr (AN.lo an z0)) z)
set_option maxHeartbeats 4000000 in
set_option maxRecDepth 100000 in
theorem law_remove {p : Program} {l : Launch} {e : Env} {s : State} {m : MethodId} {below : List Frame} {meth : Method} {c : Code} {dC : Nat → ClassId} {dI : Nat → Nat → Nat} {cy : Nat → ClassId} {b L : Nat} {xs : Nat → Int32} (hL : L ≤ 2560) (C0 : lw_At p s m meth c b L xs) (hlt : l.stackTraces = false) (hN : NW s) (hC : NC s) (hE : EX (fun q : Nat => s.heap.size ≤ q) s s.heap) (hK : va_K (dC, dI) vwCl (TY cy) s) {i : Nat} (hi : i + 5 ≤ L)
    {x a : Nat → Nat} {o : Nat} {F D : Fig} {P : PastS} {SL : Nat → Fig} {SV : Nat → Int32} {T : TextS} {WY : Nat → Int32} {md : Mod} {g : Nat → Int64} (iw : IW F P SL SV T md) {H : Heap} {locs : List Loc} {k1 k2 : Nat} (hr1 : k1 + 4 ≤ 601024) (hr2 : k2 + 24 ≤ 7293034)
    (hP : va_P (dC, dI) vwCl (LWd x a o cy F D P SL SV T WY md g) H) (hD : va_D (fun q : Nat => s.heap.size ≤ q) (LWd x a o cy F D P SL SV T WY md g)) (hS : va_S (fun q : Nat => s.heap.size ≤ q) s.heap H locs) {ls : Array Slot} (hl : lv_has ls 7 [(0, .ref b), (1, .ref (x 0)), (2, .ref (a 0)), (3, .ref o), (4, .int (nI i))]) {Q : State → Prop}
    (K : LK p l e s m below meth c (dC, dI) cy b i x a o k1 k2 Q) : W p l e room_1 s m #[Value.ref b] below meth c H locs k1 k2 Q (F0 m 841 ls []) := by
  obtain ⟨hx, hb, hr, hml, hown, hts, hX, hbl, hlocks, hgv⟩ := C0
  have htg : ∀ w ∈ GW, w.before #[Value.ref b] s = true := fun w hw => hts w (List.mem_filter.mp hw).1
  have hA : ∀ q : Nat, s.heap.size ≤ q → (fun q : Nat => s.heap.size ≤ q) q := fun _ h => h
  have hbA : ¬ (fun q : Nat => s.heap.size ≤ q) b := Nat.not_le.mpr hbl
  obtain ⟨hv1, hv2, hv3, hv4⟩ := lw_in5 hL hi
  obtain ⟨a1, F', D', P', v, m', e1, e2, iv', sz', an⟩ := o_remove iw.1 D (xs (nI i + 1).toNatClampNeg) (xs (nI i + 2).toNatClampNeg)
  have iw' := iw.up iv' sz'
  refine lv_aload_n hx hb dL_law_841 rfl (lv_at hl 1 rfl) ?_
  refine lv_aload_n hx hb dL_law_842 rfl (lv_at hl 0 rfl) ?_
  refine lv_iload hx hb dL_law_843 (lv_at hl 4 rfl) ?_
  refine lv_iconst (v := 1) hx hb dL_law_845 (by decide) ?_
  refine lv_iadd hx hb dL_law_846 ?_
  refine va_sld hx hb hX hbl hbA hS hv1 dL_law_847 ?_
  refine lv_aload_n hx hb dL_law_848 rfl (lv_at hl 0 rfl) ?_
  refine lv_iload hx hb dL_law_849 (lv_at hl 4 rfl) ?_
  refine lv_iconst (v := 2) hx hb dL_law_851 (by decide) ?_
  refine lv_iadd hx hb dL_law_852 ?_
  refine va_sld hx hb hX hbl hbA hS hv2 dL_law_853 ?_
  refine lv_aload_n hx hb dL_law_854 rfl (lv_at hl 3 rfl) ?_
  have hk : ∀ k, a1 = .inl k → k = 1 ∨ k = 3 := fun k hq => AN.k an hq
  refine cLW (av := [.ref (x 0), .int (xs (nI i + 1).toNatClampNeg), .int (xs (nI i + 2).toNatClampNeg), .ref o]) (rest := []) (st1 := [.int (lk 1 a1)]) (ret := some (.int (lk 1 a1))) (wn := LWd x a o cy F' D' P' SL SV T WY md (lo g a1)) hx hb hml hown htg hN hK hE hC (c_L_remove l dC dI cy hlt x F D P (xs (nI i + 1).toNatClampNeg) (xs (nI i + 2).toNatClampNeg) (a1, F', D', P') e1 o g hk) ⟨gw679, gw680, gw58, cw_remove⟩ hdL_remove rfl ⟨⟨Nat.le_of_ble_eq_true rfl, Nat.le_of_ble_eq_true rfl⟩, (show k1 + 2 ≤ 601024 by omega), (show k2 + 12 ≤ 7293034 by omega)⟩ hP hD hS hA (pm_sfdpqL _ _ _ _ _ _ _ _ _ _ _) (pn_sfdpqL _ _ _ _ _ _ _ _ _ _ _) hl.1 rfl (Nat.le_of_ble_eq_true rfl) rfl dL_law_855 (fun H locs hP hD hS => ?_)
  refine W.eq (g2 := F0 m 858 ls [.int (lk 1 a1)]) rfl ?_
  refine lv_istore (lv' := [(5, .int (lk 1 a1)), (0, .ref b), (1, .ref (x 0)), (2, .ref (a 0)), (3, .ref o), (4, .int (nI i))]) hx hb dL_law_858 hl (by decide) rfl (fun ls hl => ?_)
  refine lv_aload_n hx hb dL_law_860 rfl (lv_at hl 3 rfl) ?_
  refine lv_aload_n hx hb dL_law_861 rfl (lv_at hl 1 rfl) ?_
  refine lv_iload hx hb dL_law_862 (lv_at hl 5 rfl) ?_
  refine lv_iconst (v := 1) hx hb dL_law_864 (by decide) ?_
  refine lv_iadd hx hb dL_law_865 ?_
  refine va_sld hx hb hX hbl hbA hS hv1 dL_law_866 ?_
  refine lv_aload_n hx hb dL_law_867 rfl (lv_at hl 1 rfl) ?_
  refine lv_iload hx hb dL_law_868 (lv_at hl 5 rfl) ?_
  refine lv_iconst (v := 2) hx hb dL_law_870 (by decide) ?_
  refine lv_iadd hx hb dL_law_871 ?_
  refine va_sld hx hb hX hbl hbA hS hv2 dL_law_872 ?_
  refine cVp (av := [.int (xs (nI i + 1).toNatClampNeg), .int (xs (nI i + 2).toNatClampNeg)]) (rest := []) (st1 := [.int v]) (k1 := k1 + 2) (k2 := k2 + 12) (wn := LWd x a o cy F' D' P' SL SV T WY m' (lo g a1)) (ci := 4) (q0 := 0) hx hb hml hown htg hN hK (c_X9_remove l dC dI cy a md (xs (nI i + 1).toNatClampNeg) (xs (nI i + 2).toNatClampNeg) (v, m') e2) (g_V gw1145 gw1146 gw1147 gw63 gw1148) hdV_X9_remove rfl ⟨⟨Nat.le_of_ble_eq_true rfl, Nat.le_of_ble_eq_true rfl⟩, (show k1 + 2 ≤ 601024 by omega), (show k2 + 12 ≤ 7293034 by omega)⟩ hP hD hS hA ⟨rfl, rfl⟩ rfl (pm_mo _ _ _ _ _ _ _ _ _ _ _) (pn_mo _ _ _ _ _ _ _ _ _ _ _) hl.1 rfl (Nat.le_of_ble_eq_true rfl) rfl rfl rfl dL_law_873 (fun H locs hP hD hS => ?_)
  refine lv_istore (lv' := [(6, .int v), (5, .int (lk 1 a1)), (0, .ref b), (1, .ref (x 0)), (2, .ref (a 0)), (3, .ref o), (4, .int (nI i))]) hx hb dL_law_876 hl (by decide) rfl (fun ls hl => ?_)
  refine lv_aload_n hx hb dL_law_878 rfl (lv_at hl 4 rfl) ?_
  refine cVp (av := []) (rest := []) (st1 := [.int (m_thrown m')]) (k1 := k1 + 2) (k2 := k2 + 12) (wn := LWd x a o cy F' D' P' SL SV T WY m' (lo g a1)) (ci := 4) (q0 := 0) hx hb hml hown htg hN hK (c_X9_thrown l dC dI cy a m' (m_thrown m') rfl) (g_V gw905 gw906 gw907 gw63 gw908) hdV_X9_thrown rfl ⟨⟨Nat.le_of_ble_eq_true rfl, Nat.le_of_ble_eq_true rfl⟩, (show k1 + 2 ≤ 601024 by omega), (show k2 + 12 ≤ 7293034 by omega)⟩ hP hD hS hA ⟨rfl, rfl⟩ rfl (pm_mo _ _ _ _ _ _ _ _ _ _ _) (pn_mo _ _ _ _ _ _ _ _ _ _ _) hl.1 rfl (Nat.le_of_ble_eq_true rfl) rfl rfl rfl dL_law_879 (fun H locs hP hD hS => ?_)
  refine lv_iload hx hb dL_law_882 (lv_at hl 1 rfl) ?_
  refine lv_icmp_eq (tgt := 889) hx hb dL_law_884 (by decide) (fun _ => ?_) (fun z => absurd (AN.t an) z)
  refine lv_iload hx hb dL_law_889 (lv_at hl 1 rfl) ?_
  have fin : W p l e room_1 s m #[Value.ref b] below meth c H locs (k1 + 2) (k2 + 12) Q (F0 m 906 ls []) := by
    refine lv_goto (tgt := 1741) hx hb dL_law_906 (by decide) ?_
    refine W.widen (k := k1 + 4) (n := k2 + 24) (by omega) (by omega) ?_
    exact K _ _ _ _ _ _ _ _ _ H locs ls iw' hP hD hS (lv_sub hl [2, 3, 4, 5, 6] rfl)
  refine lv_if_ne (tgt := 906) hx hb dL_law_891 (by decide) (fun _ => fin) (fun z0 => ?_)
  refine lv_aload_n hx hb dL_law_894 rfl (lv_at hl 5 rfl) ?_
  refine lv_iconst (v := 0) hx hb dL_law_895 (by decide) ?_
  refine va_lald hx hb hK hP 0 4 rfl rfl vp01 dL_law_896 ?_
  refine lv_iload hx hb dL_law_897 (lv_at hl 0 rfl) ?_
  refine lv_i2l (v := v.toInt64) hx hb dL_law_899 rfl ?_
  refine W.lcmp hx hb dL_law_900 ?_
  refine lv_if_eq (tgt := 906) hx hb dL_law_901 (by decide) (fun _ => fin) (fun z => absurd ((lg_cmp_eq _ _).mpr (AN.lo an z0)) z)
set_option maxHeartbeats 4000000 in
set_option maxRecDepth 100000 in
theorem law_addHole {p : Program} {l : Launch} {e : Env} {s : State} {m : MethodId} {below : List Frame} {meth : Method} {c : Code} {dC : Nat → ClassId} {dI : Nat → Nat → Nat} {cy : Nat → ClassId} {b L : Nat} {xs : Nat → Int32} (hL : L ≤ 2560) (C0 : lw_At p s m meth c b L xs) (hlt : l.stackTraces = false) (hN : NW s) (hC : NC s) (hE : EX (fun q : Nat => s.heap.size ≤ q) s s.heap) (hK : va_K (dC, dI) vwCl (TY cy) s) {i : Nat} (hi : i + 5 ≤ L)
    {x a : Nat → Nat} {o : Nat} {F D : Fig} {P : PastS} {SL : Nat → Fig} {SV : Nat → Int32} {T : TextS} {WY : Nat → Int32} {md : Mod} {g : Nat → Int64} (iw : IW F P SL SV T md) {H : Heap} {locs : List Loc} {k1 k2 : Nat} (hr1 : k1 + 4 ≤ 601024) (hr2 : k2 + 24 ≤ 7293034)
    (hP : va_P (dC, dI) vwCl (LWd x a o cy F D P SL SV T WY md g) H) (hD : va_D (fun q : Nat => s.heap.size ≤ q) (LWd x a o cy F D P SL SV T WY md g)) (hS : va_S (fun q : Nat => s.heap.size ≤ q) s.heap H locs) {ls : Array Slot} (hl : lv_has ls 7 [(0, .ref b), (1, .ref (x 0)), (2, .ref (a 0)), (3, .ref o), (4, .int (nI i))]) {Q : State → Prop}
    (K : LK p l e s m below meth c (dC, dI) cy b i x a o k1 k2 Q) : W p l e room_1 s m #[Value.ref b] below meth c H locs k1 k2 Q (F0 m 909 ls []) := by
  obtain ⟨hx, hb, hr, hml, hown, hts, hX, hbl, hlocks, hgv⟩ := C0
  have htg : ∀ w ∈ GW, w.before #[Value.ref b] s = true := fun w hw => hts w (List.mem_filter.mp hw).1
  have hA : ∀ q : Nat, s.heap.size ≤ q → (fun q : Nat => s.heap.size ≤ q) q := fun _ h => h
  have hbA : ¬ (fun q : Nat => s.heap.size ≤ q) b := Nat.not_le.mpr hbl
  obtain ⟨hv1, hv2, hv3, hv4⟩ := lw_in5 hL hi
  obtain ⟨a1, F', D', P', v, m', e1, e2, iv', sz', an⟩ := o_addHole iw.1 D (xs (nI i + 1).toNatClampNeg) (xs (nI i + 2).toNatClampNeg)
  have iw' := iw.up iv' sz'
  refine lv_aload_n hx hb dL_law_909 rfl (lv_at hl 1 rfl) ?_
  refine lv_aload_n hx hb dL_law_910 rfl (lv_at hl 0 rfl) ?_
  refine lv_iload hx hb dL_law_911 (lv_at hl 4 rfl) ?_
  refine lv_iconst (v := 1) hx hb dL_law_913 (by decide) ?_
  refine lv_iadd hx hb dL_law_914 ?_
  refine va_sld hx hb hX hbl hbA hS hv1 dL_law_915 ?_
  refine lv_aload_n hx hb dL_law_916 rfl (lv_at hl 0 rfl) ?_
  refine lv_iload hx hb dL_law_917 (lv_at hl 4 rfl) ?_
  refine lv_iconst (v := 2) hx hb dL_law_919 (by decide) ?_
  refine lv_iadd hx hb dL_law_920 ?_
  refine va_sld hx hb hX hbl hbA hS hv2 dL_law_921 ?_
  refine lv_aload_n hx hb dL_law_922 rfl (lv_at hl 3 rfl) ?_
  have hk : ∀ k, a1 = .inl k → k = 2 ∨ k = 3 := fun k hq => AN.k an hq
  refine cLW (av := [.ref (x 0), .int (xs (nI i + 1).toNatClampNeg), .int (xs (nI i + 2).toNatClampNeg), .ref o]) (rest := []) (st1 := [.int (lk 2 a1)]) (ret := some (.int (lk 2 a1))) (wn := LWd x a o cy F' D' P' SL SV T WY md (lo g a1)) hx hb hml hown htg hN hK hE hC (c_L_addHole l dC dI cy hlt x F D P (xs (nI i + 1).toNatClampNeg) (xs (nI i + 2).toNatClampNeg) (a1, F', D', P') e1 o g hk) ⟨gw699, gw700, gw58, cw_addHole⟩ hdL_addHole rfl ⟨⟨Nat.le_of_ble_eq_true rfl, Nat.le_of_ble_eq_true rfl⟩, (show k1 + 1 ≤ 601024 by omega), (show k2 + 6 ≤ 7293034 by omega)⟩ hP hD hS hA (pm_sfdpqL _ _ _ _ _ _ _ _ _ _ _) (pn_sfdpqL _ _ _ _ _ _ _ _ _ _ _) hl.1 rfl (Nat.le_of_ble_eq_true rfl) rfl dL_law_923 (fun H locs hP hD hS => ?_)
  refine W.eq (g2 := F0 m 926 ls [.int (lk 2 a1)]) rfl ?_
  refine lv_istore (lv' := [(5, .int (lk 2 a1)), (0, .ref b), (1, .ref (x 0)), (2, .ref (a 0)), (3, .ref o), (4, .int (nI i))]) hx hb dL_law_926 hl (by decide) rfl (fun ls hl => ?_)
  refine lv_aload_n hx hb dL_law_928 rfl (lv_at hl 3 rfl) ?_
  refine lv_aload_n hx hb dL_law_929 rfl (lv_at hl 1 rfl) ?_
  refine lv_iload hx hb dL_law_930 (lv_at hl 5 rfl) ?_
  refine lv_iconst (v := 1) hx hb dL_law_932 (by decide) ?_
  refine lv_iadd hx hb dL_law_933 ?_
  refine va_sld hx hb hX hbl hbA hS hv1 dL_law_934 ?_
  refine lv_aload_n hx hb dL_law_935 rfl (lv_at hl 1 rfl) ?_
  refine lv_iload hx hb dL_law_936 (lv_at hl 5 rfl) ?_
  refine lv_iconst (v := 2) hx hb dL_law_938 (by decide) ?_
  refine lv_iadd hx hb dL_law_939 ?_
  refine va_sld hx hb hX hbl hbA hS hv2 dL_law_940 ?_
  refine cVp (av := [.int (xs (nI i + 1).toNatClampNeg), .int (xs (nI i + 2).toNatClampNeg)]) (rest := []) (st1 := [.int v]) (k1 := k1 + 1) (k2 := k2 + 6) (wn := LWd x a o cy F' D' P' SL SV T WY m' (lo g a1)) (ci := 4) (q0 := 0) hx hb hml hown htg hN hK (c_X9_addHole l dC dI cy a md (xs (nI i + 1).toNatClampNeg) (xs (nI i + 2).toNatClampNeg) (v, m') e2) (g_V gw1153 gw1154 gw1155 gw63 gw1156) hdV_X9_addHole rfl ⟨⟨Nat.le_of_ble_eq_true rfl, Nat.le_of_ble_eq_true rfl⟩, (show k1 + 1 ≤ 601024 by omega), (show k2 + 6 ≤ 7293034 by omega)⟩ hP hD hS hA ⟨rfl, rfl⟩ rfl (pm_mo _ _ _ _ _ _ _ _ _ _ _) (pn_mo _ _ _ _ _ _ _ _ _ _ _) hl.1 rfl (Nat.le_of_ble_eq_true rfl) rfl rfl rfl dL_law_941 (fun H locs hP hD hS => ?_)
  refine lv_istore (lv' := [(6, .int v), (5, .int (lk 2 a1)), (0, .ref b), (1, .ref (x 0)), (2, .ref (a 0)), (3, .ref o), (4, .int (nI i))]) hx hb dL_law_944 hl (by decide) rfl (fun ls hl => ?_)
  refine lv_aload_n hx hb dL_law_946 rfl (lv_at hl 4 rfl) ?_
  refine cVp (av := []) (rest := []) (st1 := [.int (m_thrown m')]) (k1 := k1 + 1) (k2 := k2 + 6) (wn := LWd x a o cy F' D' P' SL SV T WY m' (lo g a1)) (ci := 4) (q0 := 0) hx hb hml hown htg hN hK (c_X9_thrown l dC dI cy a m' (m_thrown m') rfl) (g_V gw905 gw906 gw907 gw63 gw908) hdV_X9_thrown rfl ⟨⟨Nat.le_of_ble_eq_true rfl, Nat.le_of_ble_eq_true rfl⟩, (show k1 + 1 ≤ 601024 by omega), (show k2 + 6 ≤ 7293034 by omega)⟩ hP hD hS hA ⟨rfl, rfl⟩ rfl (pm_mo _ _ _ _ _ _ _ _ _ _ _) (pn_mo _ _ _ _ _ _ _ _ _ _ _) hl.1 rfl (Nat.le_of_ble_eq_true rfl) rfl rfl rfl dL_law_947 (fun H locs hP hD hS => ?_)
  refine lv_iload hx hb dL_law_950 (lv_at hl 1 rfl) ?_
  refine lv_icmp_eq (tgt := 957) hx hb dL_law_952 (by decide) (fun _ => ?_) (fun z => absurd (AN.t an) z)
  refine lv_iload hx hb dL_law_957 (lv_at hl 1 rfl) ?_
  have fin : W p l e room_1 s m #[Value.ref b] below meth c H locs (k1 + 1) (k2 + 6) Q (F0 m 974 ls []) := by
    refine lv_goto (tgt := 1741) hx hb dL_law_974 (by decide) ?_
    refine W.widen (k := k1 + 4) (n := k2 + 24) (by omega) (by omega) ?_
    exact K _ _ _ _ _ _ _ _ _ H locs ls iw' hP hD hS (lv_sub hl [2, 3, 4, 5, 6] rfl)
  refine lv_if_ne (tgt := 974) hx hb dL_law_959 (by decide) (fun _ => fin) (fun z0 => ?_)
  refine lv_aload_n hx hb dL_law_962 rfl (lv_at hl 5 rfl) ?_
  refine lv_iconst (v := 0) hx hb dL_law_963 (by decide) ?_
  refine va_lald hx hb hK hP 0 4 rfl rfl vp01 dL_law_964 ?_
  refine lv_iload hx hb dL_law_965 (lv_at hl 0 rfl) ?_
  refine lv_i2l (v := v.toInt64) hx hb dL_law_967 rfl ?_
  refine W.lcmp hx hb dL_law_968 ?_
  refine lv_if_eq (tgt := 974) hx hb dL_law_969 (by decide) (fun _ => fin) (fun z => absurd ((lg_cmp_eq _ _).mpr (AN.lo an z0)) z)
set_option maxHeartbeats 4000000 in
set_option maxRecDepth 100000 in
theorem law_dropHole {p : Program} {l : Launch} {e : Env} {s : State} {m : MethodId} {below : List Frame} {meth : Method} {c : Code} {dC : Nat → ClassId} {dI : Nat → Nat → Nat} {cy : Nat → ClassId} {b L : Nat} {xs : Nat → Int32} (hL : L ≤ 2560) (C0 : lw_At p s m meth c b L xs) (hlt : l.stackTraces = false) (hN : NW s) (hC : NC s) (hE : EX (fun q : Nat => s.heap.size ≤ q) s s.heap) (hK : va_K (dC, dI) vwCl (TY cy) s) {i : Nat} (hi : i + 5 ≤ L)
    {x a : Nat → Nat} {o : Nat} {F D : Fig} {P : PastS} {SL : Nat → Fig} {SV : Nat → Int32} {T : TextS} {WY : Nat → Int32} {md : Mod} {g : Nat → Int64} (iw : IW F P SL SV T md) {H : Heap} {locs : List Loc} {k1 k2 : Nat} (hr1 : k1 + 4 ≤ 601024) (hr2 : k2 + 24 ≤ 7293034)
    (hP : va_P (dC, dI) vwCl (LWd x a o cy F D P SL SV T WY md g) H) (hD : va_D (fun q : Nat => s.heap.size ≤ q) (LWd x a o cy F D P SL SV T WY md g)) (hS : va_S (fun q : Nat => s.heap.size ≤ q) s.heap H locs) {ls : Array Slot} (hl : lv_has ls 7 [(0, .ref b), (1, .ref (x 0)), (2, .ref (a 0)), (3, .ref o), (4, .int (nI i))]) {Q : State → Prop}
    (K : LK p l e s m below meth c (dC, dI) cy b i x a o k1 k2 Q) : W p l e room_1 s m #[Value.ref b] below meth c H locs k1 k2 Q (F0 m 977 ls []) := by
  obtain ⟨hx, hb, hr, hml, hown, hts, hX, hbl, hlocks, hgv⟩ := C0
  have htg : ∀ w ∈ GW, w.before #[Value.ref b] s = true := fun w hw => hts w (List.mem_filter.mp hw).1
  have hA : ∀ q : Nat, s.heap.size ≤ q → (fun q : Nat => s.heap.size ≤ q) q := fun _ h => h
  have hbA : ¬ (fun q : Nat => s.heap.size ≤ q) b := Nat.not_le.mpr hbl
  obtain ⟨hv1, hv2, hv3, hv4⟩ := lw_in5 hL hi
  obtain ⟨a1, F', D', P', v, m', e1, e2, iv', sz', an⟩ := o_dropHole iw.1 D (xs (nI i + 1).toNatClampNeg)
  have iw' := iw.up iv' sz'
  refine lv_aload_n hx hb dL_law_977 rfl (lv_at hl 1 rfl) ?_
  refine lv_aload_n hx hb dL_law_978 rfl (lv_at hl 0 rfl) ?_
  refine lv_iload hx hb dL_law_979 (lv_at hl 4 rfl) ?_
  refine lv_iconst (v := 1) hx hb dL_law_981 (by decide) ?_
  refine lv_iadd hx hb dL_law_982 ?_
  refine va_sld hx hb hX hbl hbA hS hv1 dL_law_983 ?_
  refine lv_aload_n hx hb dL_law_984 rfl (lv_at hl 3 rfl) ?_
  have hk : ∀ k, a1 = .inl k → k = 1 ∨ k = 3 := fun k hq => AN.k an hq
  refine cLW (av := [.ref (x 0), .int (xs (nI i + 1).toNatClampNeg), .ref o]) (rest := []) (st1 := [.int (lk 1 a1)]) (ret := some (.int (lk 1 a1))) (wn := LWd x a o cy F' D' P' SL SV T WY md (lo g a1)) hx hb hml hown htg hN hK hE hC (c_L_dropHole l dC dI cy hlt x F D P (xs (nI i + 1).toNatClampNeg) (a1, F', D', P') e1 o g hk) ⟨gw714, gw715, gw58, cw_dropHole⟩ hdL_dropHole rfl ⟨⟨Nat.le_of_ble_eq_true rfl, Nat.le_of_ble_eq_true rfl⟩, (show k1 + 2 ≤ 601024 by omega), (show k2 + 12 ≤ 7293034 by omega)⟩ hP hD hS hA (pm_sfdpqL _ _ _ _ _ _ _ _ _ _ _) (pn_sfdpqL _ _ _ _ _ _ _ _ _ _ _) hl.1 rfl (Nat.le_of_ble_eq_true rfl) rfl dL_law_985 (fun H locs hP hD hS => ?_)
  refine W.eq (g2 := F0 m 988 ls [.int (lk 1 a1)]) rfl ?_
  refine lv_istore (lv' := [(5, .int (lk 1 a1)), (0, .ref b), (1, .ref (x 0)), (2, .ref (a 0)), (3, .ref o), (4, .int (nI i))]) hx hb dL_law_988 hl (by decide) rfl (fun ls hl => ?_)
  refine lv_aload_n hx hb dL_law_990 rfl (lv_at hl 3 rfl) ?_
  refine lv_aload_n hx hb dL_law_991 rfl (lv_at hl 1 rfl) ?_
  refine lv_iload hx hb dL_law_992 (lv_at hl 5 rfl) ?_
  refine lv_iconst (v := 1) hx hb dL_law_994 (by decide) ?_
  refine lv_iadd hx hb dL_law_995 ?_
  refine va_sld hx hb hX hbl hbA hS hv1 dL_law_996 ?_
  refine cVp (av := [.int (xs (nI i + 1).toNatClampNeg)]) (rest := []) (st1 := [.int v]) (k1 := k1 + 2) (k2 := k2 + 12) (wn := LWd x a o cy F' D' P' SL SV T WY m' (lo g a1)) (ci := 4) (q0 := 0) hx hb hml hown htg hN hK (c_X9_dropHole l dC dI cy a md (xs (nI i + 1).toNatClampNeg) (v, m') e2) (g_V gw1161 gw1162 gw1163 gw63 gw1164) hdV_X9_dropHole rfl ⟨⟨Nat.le_of_ble_eq_true rfl, Nat.le_of_ble_eq_true rfl⟩, (show k1 + 2 ≤ 601024 by omega), (show k2 + 12 ≤ 7293034 by omega)⟩ hP hD hS hA ⟨rfl, rfl⟩ rfl (pm_mo _ _ _ _ _ _ _ _ _ _ _) (pn_mo _ _ _ _ _ _ _ _ _ _ _) hl.1 rfl (Nat.le_of_ble_eq_true rfl) rfl rfl rfl dL_law_997 (fun H locs hP hD hS => ?_)
  refine lv_istore (lv' := [(6, .int v), (5, .int (lk 1 a1)), (0, .ref b), (1, .ref (x 0)), (2, .ref (a 0)), (3, .ref o), (4, .int (nI i))]) hx hb dL_law_1000 hl (by decide) rfl (fun ls hl => ?_)
  refine lv_aload_n hx hb dL_law_1002 rfl (lv_at hl 4 rfl) ?_
  refine cVp (av := []) (rest := []) (st1 := [.int (m_thrown m')]) (k1 := k1 + 2) (k2 := k2 + 12) (wn := LWd x a o cy F' D' P' SL SV T WY m' (lo g a1)) (ci := 4) (q0 := 0) hx hb hml hown htg hN hK (c_X9_thrown l dC dI cy a m' (m_thrown m') rfl) (g_V gw905 gw906 gw907 gw63 gw908) hdV_X9_thrown rfl ⟨⟨Nat.le_of_ble_eq_true rfl, Nat.le_of_ble_eq_true rfl⟩, (show k1 + 2 ≤ 601024 by omega), (show k2 + 12 ≤ 7293034 by omega)⟩ hP hD hS hA ⟨rfl, rfl⟩ rfl (pm_mo _ _ _ _ _ _ _ _ _ _ _) (pn_mo _ _ _ _ _ _ _ _ _ _ _) hl.1 rfl (Nat.le_of_ble_eq_true rfl) rfl rfl rfl dL_law_1003 (fun H locs hP hD hS => ?_)
  refine lv_iload hx hb dL_law_1006 (lv_at hl 1 rfl) ?_
  refine lv_icmp_eq (tgt := 1013) hx hb dL_law_1008 (by decide) (fun _ => ?_) (fun z => absurd (AN.t an) z)
  refine lv_iload hx hb dL_law_1013 (lv_at hl 1 rfl) ?_
  have fin : W p l e room_1 s m #[Value.ref b] below meth c H locs (k1 + 2) (k2 + 12) Q (F0 m 1030 ls []) := by
    refine lv_goto (tgt := 1741) hx hb dL_law_1030 (by decide) ?_
    refine W.widen (k := k1 + 4) (n := k2 + 24) (by omega) (by omega) ?_
    exact K _ _ _ _ _ _ _ _ _ H locs ls iw' hP hD hS (lv_sub hl [2, 3, 4, 5, 6] rfl)
  refine lv_if_ne (tgt := 1030) hx hb dL_law_1015 (by decide) (fun _ => fin) (fun z0 => ?_)
  refine lv_aload_n hx hb dL_law_1018 rfl (lv_at hl 5 rfl) ?_
  refine lv_iconst (v := 0) hx hb dL_law_1019 (by decide) ?_
  refine va_lald hx hb hK hP 0 4 rfl rfl vp01 dL_law_1020 ?_
  refine lv_iload hx hb dL_law_1021 (lv_at hl 0 rfl) ?_
  refine lv_i2l (v := v.toInt64) hx hb dL_law_1023 rfl ?_
  refine W.lcmp hx hb dL_law_1024 ?_
  refine lv_if_eq (tgt := 1030) hx hb dL_law_1025 (by decide) (fun _ => fin) (fun z => absurd ((lg_cmp_eq _ _).mpr (AN.lo an z0)) z)
set_option maxHeartbeats 4000000 in
set_option maxRecDepth 100000 in
theorem law_shift {p : Program} {l : Launch} {e : Env} {s : State} {m : MethodId} {below : List Frame} {meth : Method} {c : Code} {dC : Nat → ClassId} {dI : Nat → Nat → Nat} {cy : Nat → ClassId} {b L : Nat} {xs : Nat → Int32} (hL : L ≤ 2560) (C0 : lw_At p s m meth c b L xs) (hlt : l.stackTraces = false) (hN : NW s) (hC : NC s) (hE : EX (fun q : Nat => s.heap.size ≤ q) s s.heap) (hK : va_K (dC, dI) vwCl (TY cy) s) {i : Nat} (hi : i + 5 ≤ L)
    {x a : Nat → Nat} {o : Nat} {F D : Fig} {P : PastS} {SL : Nat → Fig} {SV : Nat → Int32} {T : TextS} {WY : Nat → Int32} {md : Mod} {g : Nat → Int64} (iw : IW F P SL SV T md) {H : Heap} {locs : List Loc} {k1 k2 : Nat} (hr1 : k1 + 4 ≤ 601024) (hr2 : k2 + 24 ≤ 7293034)
    (hP : va_P (dC, dI) vwCl (LWd x a o cy F D P SL SV T WY md g) H) (hD : va_D (fun q : Nat => s.heap.size ≤ q) (LWd x a o cy F D P SL SV T WY md g)) (hS : va_S (fun q : Nat => s.heap.size ≤ q) s.heap H locs) {ls : Array Slot} (hl : lv_has ls 7 [(0, .ref b), (1, .ref (x 0)), (2, .ref (a 0)), (3, .ref o), (4, .int (nI i))]) {Q : State → Prop}
    (K : LK p l e s m below meth c (dC, dI) cy b i x a o k1 k2 Q) : W p l e room_1 s m #[Value.ref b] below meth c H locs k1 k2 Q (F0 m 1033 ls []) := by
  obtain ⟨hx, hb, hr, hml, hown, hts, hX, hbl, hlocks, hgv⟩ := C0
  have htg : ∀ w ∈ GW, w.before #[Value.ref b] s = true := fun w hw => hts w (List.mem_filter.mp hw).1
  have hA : ∀ q : Nat, s.heap.size ≤ q → (fun q : Nat => s.heap.size ≤ q) q := fun _ h => h
  have hbA : ¬ (fun q : Nat => s.heap.size ≤ q) b := Nat.not_le.mpr hbl
  obtain ⟨hv1, hv2, hv3, hv4⟩ := lw_in5 hL hi
  obtain ⟨a1, F', D', P', v, m', e1, e2, iv', sz', an⟩ := o_shift iw.1 D (xs (nI i + 1).toNatClampNeg) (xs (nI i + 2).toNatClampNeg)
  have iw' := iw.up iv' sz'
  refine lv_aload_n hx hb dL_law_1033 rfl (lv_at hl 1 rfl) ?_
  refine lv_aload_n hx hb dL_law_1034 rfl (lv_at hl 0 rfl) ?_
  refine lv_iload hx hb dL_law_1035 (lv_at hl 4 rfl) ?_
  refine lv_iconst (v := 1) hx hb dL_law_1037 (by decide) ?_
  refine lv_iadd hx hb dL_law_1038 ?_
  refine va_sld hx hb hX hbl hbA hS hv1 dL_law_1039 ?_
  refine lv_aload_n hx hb dL_law_1040 rfl (lv_at hl 0 rfl) ?_
  refine lv_iload hx hb dL_law_1041 (lv_at hl 4 rfl) ?_
  refine lv_iconst (v := 2) hx hb dL_law_1043 (by decide) ?_
  refine lv_iadd hx hb dL_law_1044 ?_
  refine va_sld hx hb hX hbl hbA hS hv2 dL_law_1045 ?_
  refine lv_aload_n hx hb dL_law_1046 rfl (lv_at hl 3 rfl) ?_
  have hk : ∀ k, a1 = .inl k → k = 2 ∨ k = 3 := fun k hq => AN.k an hq
  refine cLW (av := [.ref (x 0), .int (xs (nI i + 1).toNatClampNeg), .int (xs (nI i + 2).toNatClampNeg), .ref o]) (rest := []) (st1 := [.int (lk 2 a1)]) (ret := some (.int (lk 2 a1))) (wn := LWd x a o cy F' D' P' SL SV T WY md (lo g a1)) hx hb hml hown htg hN hK hE hC (c_L_shift l dC dI cy hlt x F D P (xs (nI i + 1).toNatClampNeg) (xs (nI i + 2).toNatClampNeg) (a1, F', D', P') e1 o g hk) ⟨gw726, gw727, gw58, cw_shift⟩ hdL_shift rfl ⟨⟨Nat.le_of_ble_eq_true rfl, Nat.le_of_ble_eq_true rfl⟩, (show k1 + 1 ≤ 601024 by omega), (show k2 + 6 ≤ 7293034 by omega)⟩ hP hD hS hA (pm_sfdpqL _ _ _ _ _ _ _ _ _ _ _) (pn_sfdpqL _ _ _ _ _ _ _ _ _ _ _) hl.1 rfl (Nat.le_of_ble_eq_true rfl) rfl dL_law_1047 (fun H locs hP hD hS => ?_)
  refine W.eq (g2 := F0 m 1050 ls [.int (lk 2 a1)]) rfl ?_
  refine lv_istore (lv' := [(5, .int (lk 2 a1)), (0, .ref b), (1, .ref (x 0)), (2, .ref (a 0)), (3, .ref o), (4, .int (nI i))]) hx hb dL_law_1050 hl (by decide) rfl (fun ls hl => ?_)
  refine lv_aload_n hx hb dL_law_1052 rfl (lv_at hl 3 rfl) ?_
  refine lv_aload_n hx hb dL_law_1053 rfl (lv_at hl 1 rfl) ?_
  refine lv_iload hx hb dL_law_1054 (lv_at hl 5 rfl) ?_
  refine lv_iconst (v := 1) hx hb dL_law_1056 (by decide) ?_
  refine lv_iadd hx hb dL_law_1057 ?_
  refine va_sld hx hb hX hbl hbA hS hv1 dL_law_1058 ?_
  refine lv_aload_n hx hb dL_law_1059 rfl (lv_at hl 1 rfl) ?_
  refine lv_iload hx hb dL_law_1060 (lv_at hl 5 rfl) ?_
  refine lv_iconst (v := 2) hx hb dL_law_1062 (by decide) ?_
  refine lv_iadd hx hb dL_law_1063 ?_
  refine va_sld hx hb hX hbl hbA hS hv2 dL_law_1064 ?_
  refine cVp (av := [.int (xs (nI i + 1).toNatClampNeg), .int (xs (nI i + 2).toNatClampNeg)]) (rest := []) (st1 := [.int v]) (k1 := k1 + 1) (k2 := k2 + 6) (wn := LWd x a o cy F' D' P' SL SV T WY m' (lo g a1)) (ci := 4) (q0 := 0) hx hb hml hown htg hN hK (c_X9_shift l dC dI cy a md (xs (nI i + 1).toNatClampNeg) (xs (nI i + 2).toNatClampNeg) (v, m') e2) (g_V gw1165 gw1166 gw1167 gw63 gw1168) hdV_X9_shift rfl ⟨⟨Nat.le_of_ble_eq_true rfl, Nat.le_of_ble_eq_true rfl⟩, (show k1 + 1 ≤ 601024 by omega), (show k2 + 6 ≤ 7293034 by omega)⟩ hP hD hS hA ⟨rfl, rfl⟩ rfl (pm_mo _ _ _ _ _ _ _ _ _ _ _) (pn_mo _ _ _ _ _ _ _ _ _ _ _) hl.1 rfl (Nat.le_of_ble_eq_true rfl) rfl rfl rfl dL_law_1065 (fun H locs hP hD hS => ?_)
  refine lv_istore (lv' := [(6, .int v), (5, .int (lk 2 a1)), (0, .ref b), (1, .ref (x 0)), (2, .ref (a 0)), (3, .ref o), (4, .int (nI i))]) hx hb dL_law_1068 hl (by decide) rfl (fun ls hl => ?_)
  refine lv_aload_n hx hb dL_law_1070 rfl (lv_at hl 4 rfl) ?_
  refine cVp (av := []) (rest := []) (st1 := [.int (m_thrown m')]) (k1 := k1 + 1) (k2 := k2 + 6) (wn := LWd x a o cy F' D' P' SL SV T WY m' (lo g a1)) (ci := 4) (q0 := 0) hx hb hml hown htg hN hK (c_X9_thrown l dC dI cy a m' (m_thrown m') rfl) (g_V gw905 gw906 gw907 gw63 gw908) hdV_X9_thrown rfl ⟨⟨Nat.le_of_ble_eq_true rfl, Nat.le_of_ble_eq_true rfl⟩, (show k1 + 1 ≤ 601024 by omega), (show k2 + 6 ≤ 7293034 by omega)⟩ hP hD hS hA ⟨rfl, rfl⟩ rfl (pm_mo _ _ _ _ _ _ _ _ _ _ _) (pn_mo _ _ _ _ _ _ _ _ _ _ _) hl.1 rfl (Nat.le_of_ble_eq_true rfl) rfl rfl rfl dL_law_1071 (fun H locs hP hD hS => ?_)
  refine lv_iload hx hb dL_law_1074 (lv_at hl 1 rfl) ?_
  refine lv_icmp_eq (tgt := 1081) hx hb dL_law_1076 (by decide) (fun _ => ?_) (fun z => absurd (AN.t an) z)
  refine lv_iload hx hb dL_law_1081 (lv_at hl 1 rfl) ?_
  have fin : W p l e room_1 s m #[Value.ref b] below meth c H locs (k1 + 1) (k2 + 6) Q (F0 m 1098 ls []) := by
    refine lv_goto (tgt := 1741) hx hb dL_law_1098 (by decide) ?_
    refine W.widen (k := k1 + 4) (n := k2 + 24) (by omega) (by omega) ?_
    exact K _ _ _ _ _ _ _ _ _ H locs ls iw' hP hD hS (lv_sub hl [2, 3, 4, 5, 6] rfl)
  refine lv_if_ne (tgt := 1098) hx hb dL_law_1083 (by decide) (fun _ => fin) (fun z0 => ?_)
  refine lv_aload_n hx hb dL_law_1086 rfl (lv_at hl 5 rfl) ?_
  refine lv_iconst (v := 0) hx hb dL_law_1087 (by decide) ?_
  refine va_lald hx hb hK hP 0 4 rfl rfl vp01 dL_law_1088 ?_
  refine lv_iload hx hb dL_law_1089 (lv_at hl 0 rfl) ?_
  refine lv_i2l (v := v.toInt64) hx hb dL_law_1091 rfl ?_
  refine W.lcmp hx hb dL_law_1092 ?_
  refine lv_if_eq (tgt := 1098) hx hb dL_law_1093 (by decide) (fun _ => fin) (fun z => absurd ((lg_cmp_eq _ _).mpr (AN.lo an z0)) z)
set_option maxHeartbeats 4000000 in
set_option maxRecDepth 100000 in
theorem law_turn {p : Program} {l : Launch} {e : Env} {s : State} {m : MethodId} {below : List Frame} {meth : Method} {c : Code} {dC : Nat → ClassId} {dI : Nat → Nat → Nat} {cy : Nat → ClassId} {b L : Nat} {xs : Nat → Int32} (hL : L ≤ 2560) (C0 : lw_At p s m meth c b L xs) (hlt : l.stackTraces = false) (hN : NW s) (hC : NC s) (hE : EX (fun q : Nat => s.heap.size ≤ q) s s.heap) (hK : va_K (dC, dI) vwCl (TY cy) s) {i : Nat} (hi : i + 5 ≤ L)
    {x a : Nat → Nat} {o : Nat} {F D : Fig} {P : PastS} {SL : Nat → Fig} {SV : Nat → Int32} {T : TextS} {WY : Nat → Int32} {md : Mod} {g : Nat → Int64} (iw : IW F P SL SV T md) {H : Heap} {locs : List Loc} {k1 k2 : Nat} (hr1 : k1 + 4 ≤ 601024) (hr2 : k2 + 24 ≤ 7293034)
    (hP : va_P (dC, dI) vwCl (LWd x a o cy F D P SL SV T WY md g) H) (hD : va_D (fun q : Nat => s.heap.size ≤ q) (LWd x a o cy F D P SL SV T WY md g)) (hS : va_S (fun q : Nat => s.heap.size ≤ q) s.heap H locs) {ls : Array Slot} (hl : lv_has ls 7 [(0, .ref b), (1, .ref (x 0)), (2, .ref (a 0)), (3, .ref o), (4, .int (nI i))]) {Q : State → Prop}
    (K : LK p l e s m below meth c (dC, dI) cy b i x a o k1 k2 Q) : W p l e room_1 s m #[Value.ref b] below meth c H locs k1 k2 Q (F0 m 1101 ls []) := by
  obtain ⟨hx, hb, hr, hml, hown, hts, hX, hbl, hlocks, hgv⟩ := C0
  have htg : ∀ w ∈ GW, w.before #[Value.ref b] s = true := fun w hw => hts w (List.mem_filter.mp hw).1
  have hA : ∀ q : Nat, s.heap.size ≤ q → (fun q : Nat => s.heap.size ≤ q) q := fun _ h => h
  have hbA : ¬ (fun q : Nat => s.heap.size ≤ q) b := Nat.not_le.mpr hbl
  obtain ⟨hv1, hv2, hv3, hv4⟩ := lw_in5 hL hi
  obtain ⟨F', D', P', v, m', e1, e2, iv', sz', th⟩ := o_turn iw.1 D
  have iw' := iw.up iv' sz'
  refine lv_aload_n hx hb dL_law_1101 rfl (lv_at hl 1 rfl) ?_
  refine cVp (av := []) (rest := []) (st1 := [.int v]) (k1 := k1 + 0) (k2 := k2 + 0) (wn := LWd x a o cy F' D' P' SL SV T WY md g) (ci := 3) (q0 := 0) hx hb hml hown htg hN hK (c_X8_turn l dC dI cy x F D P (v, F', D', P') e1) (g_V gw309 gw310 gw311 gw59 gw312) hdV_X8_turn rfl ⟨⟨Nat.le_of_ble_eq_true rfl, Nat.le_of_ble_eq_true rfl⟩, (show k1 + 0 ≤ 601024 by omega), (show k2 + 0 ≤ 7293034 by omega)⟩ hP hD hS hA ⟨rfl, rfl⟩ rfl (pm_sfdpq _ _ _ _ _ _ _ _ _ _ _) (pn_sfdpq _ _ _ _ _ _ _ _ _ _ _) hl.1 rfl (Nat.le_of_ble_eq_true rfl) rfl rfl rfl dL_law_1102 (fun H locs hP hD hS => ?_)
  refine lv_aload_n hx hb dL_law_1105 rfl (lv_at hl 2 rfl) ?_
  refine cVp (av := []) (rest := [.int v]) (st1 := [.int v, .int v]) (k1 := k1 + 0) (k2 := k2 + 0) (wn := LWd x a o cy F' D' P' SL SV T WY m' g) (ci := 4) (q0 := 0) hx hb hml hown htg hN hK (c_X9_turn l dC dI cy a md (v, m') e2) (g_V gw1177 gw1178 gw1179 gw63 gw1180) hdV_X9_turn rfl ⟨⟨Nat.le_of_ble_eq_true rfl, Nat.le_of_ble_eq_true rfl⟩, (show k1 + 0 ≤ 601024 by omega), (show k2 + 0 ≤ 7293034 by omega)⟩ hP hD hS hA ⟨rfl, rfl⟩ rfl (pm_mo _ _ _ _ _ _ _ _ _ _ _) (pn_mo _ _ _ _ _ _ _ _ _ _ _) hl.1 rfl (Nat.le_of_ble_eq_true rfl) rfl rfl rfl dL_law_1106 (fun H locs hP hD hS => ?_)
  refine lv_icmp_eq (tgt := 1741) hx hb dL_law_1109 (by decide) (fun _ => ?_) (fun z => absurd rfl z)
  refine W.widen (k := k1 + 4) (n := k2 + 24) (by omega) (by omega) ?_
  exact K _ _ _ _ _ _ _ _ _ H locs ls iw' hP hD hS hl
set_option maxHeartbeats 4000000 in
set_option maxRecDepth 100000 in
theorem law_mirror {p : Program} {l : Launch} {e : Env} {s : State} {m : MethodId} {below : List Frame} {meth : Method} {c : Code} {dC : Nat → ClassId} {dI : Nat → Nat → Nat} {cy : Nat → ClassId} {b L : Nat} {xs : Nat → Int32} (hL : L ≤ 2560) (C0 : lw_At p s m meth c b L xs) (hlt : l.stackTraces = false) (hN : NW s) (hC : NC s) (hE : EX (fun q : Nat => s.heap.size ≤ q) s s.heap) (hK : va_K (dC, dI) vwCl (TY cy) s) {i : Nat} (hi : i + 5 ≤ L)
    {x a : Nat → Nat} {o : Nat} {F D : Fig} {P : PastS} {SL : Nat → Fig} {SV : Nat → Int32} {T : TextS} {WY : Nat → Int32} {md : Mod} {g : Nat → Int64} (iw : IW F P SL SV T md) {H : Heap} {locs : List Loc} {k1 k2 : Nat} (hr1 : k1 + 4 ≤ 601024) (hr2 : k2 + 24 ≤ 7293034)
    (hP : va_P (dC, dI) vwCl (LWd x a o cy F D P SL SV T WY md g) H) (hD : va_D (fun q : Nat => s.heap.size ≤ q) (LWd x a o cy F D P SL SV T WY md g)) (hS : va_S (fun q : Nat => s.heap.size ≤ q) s.heap H locs) {ls : Array Slot} (hl : lv_has ls 7 [(0, .ref b), (1, .ref (x 0)), (2, .ref (a 0)), (3, .ref o), (4, .int (nI i))]) {Q : State → Prop}
    (K : LK p l e s m below meth c (dC, dI) cy b i x a o k1 k2 Q) : W p l e room_1 s m #[Value.ref b] below meth c H locs k1 k2 Q (F0 m 1114 ls []) := by
  obtain ⟨hx, hb, hr, hml, hown, hts, hX, hbl, hlocks, hgv⟩ := C0
  have htg : ∀ w ∈ GW, w.before #[Value.ref b] s = true := fun w hw => hts w (List.mem_filter.mp hw).1
  have hA : ∀ q : Nat, s.heap.size ≤ q → (fun q : Nat => s.heap.size ≤ q) q := fun _ h => h
  have hbA : ¬ (fun q : Nat => s.heap.size ≤ q) b := Nat.not_le.mpr hbl
  obtain ⟨hv1, hv2, hv3, hv4⟩ := lw_in5 hL hi
  obtain ⟨F', D', P', v, m', e1, e2, iv', sz', th⟩ := o_mirror iw.1 D
  have iw' := iw.up iv' sz'
  refine lv_aload_n hx hb dL_law_1114 rfl (lv_at hl 1 rfl) ?_
  refine cVp (av := []) (rest := []) (st1 := [.int v]) (k1 := k1 + 0) (k2 := k2 + 0) (wn := LWd x a o cy F' D' P' SL SV T WY md g) (ci := 3) (q0 := 0) hx hb hml hown htg hN hK (c_X8_mirror l dC dI cy x F D P (v, F', D', P') e1) (g_V gw338 gw339 gw340 gw59 gw341) hdV_X8_mirror rfl ⟨⟨Nat.le_of_ble_eq_true rfl, Nat.le_of_ble_eq_true rfl⟩, (show k1 + 0 ≤ 601024 by omega), (show k2 + 0 ≤ 7293034 by omega)⟩ hP hD hS hA ⟨rfl, rfl⟩ rfl (pm_sfdpq _ _ _ _ _ _ _ _ _ _ _) (pn_sfdpq _ _ _ _ _ _ _ _ _ _ _) hl.1 rfl (Nat.le_of_ble_eq_true rfl) rfl rfl rfl dL_law_1115 (fun H locs hP hD hS => ?_)
  refine lv_aload_n hx hb dL_law_1118 rfl (lv_at hl 2 rfl) ?_
  refine cVp (av := []) (rest := [.int v]) (st1 := [.int v, .int v]) (k1 := k1 + 0) (k2 := k2 + 0) (wn := LWd x a o cy F' D' P' SL SV T WY m' g) (ci := 4) (q0 := 0) hx hb hml hown htg hN hK (c_X9_mirror l dC dI cy a md (v, m') e2) (g_V gw1185 gw1186 gw1187 gw63 gw1188) hdV_X9_mirror rfl ⟨⟨Nat.le_of_ble_eq_true rfl, Nat.le_of_ble_eq_true rfl⟩, (show k1 + 0 ≤ 601024 by omega), (show k2 + 0 ≤ 7293034 by omega)⟩ hP hD hS hA ⟨rfl, rfl⟩ rfl (pm_mo _ _ _ _ _ _ _ _ _ _ _) (pn_mo _ _ _ _ _ _ _ _ _ _ _) hl.1 rfl (Nat.le_of_ble_eq_true rfl) rfl rfl rfl dL_law_1119 (fun H locs hP hD hS => ?_)
  refine lv_icmp_eq (tgt := 1741) hx hb dL_law_1122 (by decide) (fun _ => ?_) (fun z => absurd rfl z)
  refine W.widen (k := k1 + 4) (n := k2 + 24) (by omega) (by omega) ?_
  exact K _ _ _ _ _ _ _ _ _ H locs ls iw' hP hD hS hl
set_option maxHeartbeats 4000000 in
set_option maxRecDepth 100000 in
theorem law_undo {p : Program} {l : Launch} {e : Env} {s : State} {m : MethodId} {below : List Frame} {meth : Method} {c : Code} {dC : Nat → ClassId} {dI : Nat → Nat → Nat} {cy : Nat → ClassId} {b L : Nat} {xs : Nat → Int32} (hL : L ≤ 2560) (C0 : lw_At p s m meth c b L xs) (hlt : l.stackTraces = false) (hN : NW s) (hC : NC s) (hE : EX (fun q : Nat => s.heap.size ≤ q) s s.heap) (hK : va_K (dC, dI) vwCl (TY cy) s) {i : Nat} (hi : i + 5 ≤ L)
    {x a : Nat → Nat} {o : Nat} {F D : Fig} {P : PastS} {SL : Nat → Fig} {SV : Nat → Int32} {T : TextS} {WY : Nat → Int32} {md : Mod} {g : Nat → Int64} (iw : IW F P SL SV T md) {H : Heap} {locs : List Loc} {k1 k2 : Nat} (hr1 : k1 + 4 ≤ 601024) (hr2 : k2 + 24 ≤ 7293034)
    (hP : va_P (dC, dI) vwCl (LWd x a o cy F D P SL SV T WY md g) H) (hD : va_D (fun q : Nat => s.heap.size ≤ q) (LWd x a o cy F D P SL SV T WY md g)) (hS : va_S (fun q : Nat => s.heap.size ≤ q) s.heap H locs) {ls : Array Slot} (hl : lv_has ls 7 [(0, .ref b), (1, .ref (x 0)), (2, .ref (a 0)), (3, .ref o), (4, .int (nI i))]) {Q : State → Prop}
    (K : LK p l e s m below meth c (dC, dI) cy b i x a o k1 k2 Q) : W p l e room_1 s m #[Value.ref b] below meth c H locs k1 k2 Q (F0 m 1127 ls []) := by
  obtain ⟨hx, hb, hr, hml, hown, hts, hX, hbl, hlocks, hgv⟩ := C0
  have htg : ∀ w ∈ GW, w.before #[Value.ref b] s = true := fun w hw => hts w (List.mem_filter.mp hw).1
  have hA : ∀ q : Nat, s.heap.size ≤ q → (fun q : Nat => s.heap.size ≤ q) q := fun _ h => h
  have hbA : ¬ (fun q : Nat => s.heap.size ≤ q) b := Nat.not_le.mpr hbl
  obtain ⟨hv1, hv2, hv3, hv4⟩ := lw_in5 hL hi
  obtain ⟨a1, F', P', v, m', e1, e2, iv', sz', an⟩ := o_undo iw.1
  have iw' := iw.up iv' sz'
  refine lv_aload_n hx hb dL_law_1127 rfl (lv_at hl 1 rfl) ?_
  refine lv_aload_n hx hb dL_law_1128 rfl (lv_at hl 3 rfl) ?_
  have hk : ∀ k, a1 = .inl k → k = 3 := fun k hq => A1.k an hq
  refine cLW (av := [.ref (x 0), .ref o]) (rest := []) (st1 := [.int (lk 3 a1)]) (ret := some (.int (lk 3 a1))) (wn := LWd x a o cy F' D P' SL SV T WY md (lo g a1)) hx hb hml hown htg hN hK hE hC (c_L_undo l dC dI cy hlt x F P (a1, F', P') e1 o g hk) ⟨gw743, gw744, gw58, cw_undo⟩ hdL_undo rfl ⟨⟨Nat.le_of_ble_eq_true rfl, Nat.le_of_ble_eq_true rfl⟩, (show k1 + 1 ≤ 601024 by omega), (show k2 + 6 ≤ 7293034 by omega)⟩ hP hD hS hA (pm_sfpqL _ _ _ _ _ _ _ _ _ _ _) (pn_sfpqL _ _ _ _ _ _ _ _ _ _ _) hl.1 rfl (Nat.le_of_ble_eq_true rfl) rfl dL_law_1129 (fun H locs hP hD hS => ?_)
  refine W.eq (g2 := F0 m 1132 ls [.int (lk 3 a1)]) rfl ?_
  refine lv_istore (lv' := [(5, .int (lk 3 a1)), (0, .ref b), (1, .ref (x 0)), (2, .ref (a 0)), (3, .ref o), (4, .int (nI i))]) hx hb dL_law_1132 hl (by decide) rfl (fun ls hl => ?_)
  refine lv_aload_n hx hb dL_law_1134 rfl (lv_at hl 3 rfl) ?_
  refine cVp (av := []) (rest := []) (st1 := [.int v]) (k1 := k1 + 1) (k2 := k2 + 6) (wn := LWd x a o cy F' D P' SL SV T WY m' (lo g a1)) (ci := 4) (q0 := 0) hx hb hml hown htg hN hK (c_X9_undo l dC dI cy a md (v, m') e2) (g_V gw1189 gw1190 gw1191 gw63 gw1192) hdV_X9_undo rfl ⟨⟨Nat.le_of_ble_eq_true rfl, Nat.le_of_ble_eq_true rfl⟩, (show k1 + 1 ≤ 601024 by omega), (show k2 + 6 ≤ 7293034 by omega)⟩ hP hD hS hA ⟨rfl, rfl⟩ rfl (pm_mo _ _ _ _ _ _ _ _ _ _ _) (pn_mo _ _ _ _ _ _ _ _ _ _ _) hl.1 rfl (Nat.le_of_ble_eq_true rfl) rfl rfl rfl dL_law_1135 (fun H locs hP hD hS => ?_)
  refine lv_istore (lv' := [(6, .int v), (5, .int (lk 3 a1)), (0, .ref b), (1, .ref (x 0)), (2, .ref (a 0)), (3, .ref o), (4, .int (nI i))]) hx hb dL_law_1138 hl (by decide) rfl (fun ls hl => ?_)
  refine lv_aload_n hx hb dL_law_1140 rfl (lv_at hl 4 rfl) ?_
  refine cVp (av := []) (rest := []) (st1 := [.int (m_thrown m')]) (k1 := k1 + 1) (k2 := k2 + 6) (wn := LWd x a o cy F' D P' SL SV T WY m' (lo g a1)) (ci := 4) (q0 := 0) hx hb hml hown htg hN hK (c_X9_thrown l dC dI cy a m' (m_thrown m') rfl) (g_V gw905 gw906 gw907 gw63 gw908) hdV_X9_thrown rfl ⟨⟨Nat.le_of_ble_eq_true rfl, Nat.le_of_ble_eq_true rfl⟩, (show k1 + 1 ≤ 601024 by omega), (show k2 + 6 ≤ 7293034 by omega)⟩ hP hD hS hA ⟨rfl, rfl⟩ rfl (pm_mo _ _ _ _ _ _ _ _ _ _ _) (pn_mo _ _ _ _ _ _ _ _ _ _ _) hl.1 rfl (Nat.le_of_ble_eq_true rfl) rfl rfl rfl dL_law_1141 (fun H locs hP hD hS => ?_)
  refine lv_iload hx hb dL_law_1144 (lv_at hl 1 rfl) ?_
  refine lv_icmp_eq (tgt := 1151) hx hb dL_law_1146 (by decide) (fun _ => ?_) (fun z => absurd (A1.t an) z)
  refine lv_iload hx hb dL_law_1151 (lv_at hl 1 rfl) ?_
  have fin : W p l e room_1 s m #[Value.ref b] below meth c H locs (k1 + 1) (k2 + 6) Q (F0 m 1168 ls []) := by
    refine lv_goto (tgt := 1741) hx hb dL_law_1168 (by decide) ?_
    refine W.widen (k := k1 + 4) (n := k2 + 24) (by omega) (by omega) ?_
    exact K _ _ _ _ _ _ _ _ _ H locs ls iw' hP hD hS (lv_sub hl [2, 3, 4, 5, 6] rfl)
  refine lv_if_ne (tgt := 1168) hx hb dL_law_1153 (by decide) (fun _ => fin) (fun z0 => ?_)
  refine lv_aload_n hx hb dL_law_1156 rfl (lv_at hl 5 rfl) ?_
  refine lv_iconst (v := 0) hx hb dL_law_1157 (by decide) ?_
  refine va_lald hx hb hK hP 0 4 rfl rfl vp01 dL_law_1158 ?_
  refine lv_iload hx hb dL_law_1159 (lv_at hl 0 rfl) ?_
  refine lv_i2l (v := v.toInt64) hx hb dL_law_1161 rfl ?_
  refine W.lcmp hx hb dL_law_1162 ?_
  refine lv_if_eq (tgt := 1168) hx hb dL_law_1163 (by decide) (fun _ => fin) (fun z => absurd ((lg_cmp_eq _ _).mpr (A1.lo an z0)) z)
set_option maxHeartbeats 4000000 in
set_option maxRecDepth 100000 in
theorem law_whyNot {p : Program} {l : Launch} {e : Env} {s : State} {m : MethodId} {below : List Frame} {meth : Method} {c : Code} {dC : Nat → ClassId} {dI : Nat → Nat → Nat} {cy : Nat → ClassId} {b L : Nat} {xs : Nat → Int32} (hL : L ≤ 2560) (C0 : lw_At p s m meth c b L xs) (hlt : l.stackTraces = false) (hN : NW s) (hC : NC s) (hE : EX (fun q : Nat => s.heap.size ≤ q) s s.heap) (hK : va_K (dC, dI) vwCl (TY cy) s) {i : Nat} (hi : i + 5 ≤ L)
    {x a : Nat → Nat} {o : Nat} {F D : Fig} {P : PastS} {SL : Nat → Fig} {SV : Nat → Int32} {T : TextS} {WY : Nat → Int32} {md : Mod} {g : Nat → Int64} (iw : IW F P SL SV T md) {H : Heap} {locs : List Loc} {k1 k2 : Nat} (hr1 : k1 + 4 ≤ 601024) (hr2 : k2 + 24 ≤ 7293034)
    (hP : va_P (dC, dI) vwCl (LWd x a o cy F D P SL SV T WY md g) H) (hD : va_D (fun q : Nat => s.heap.size ≤ q) (LWd x a o cy F D P SL SV T WY md g)) (hS : va_S (fun q : Nat => s.heap.size ≤ q) s.heap H locs) {ls : Array Slot} (hl : lv_has ls 7 [(0, .ref b), (1, .ref (x 0)), (2, .ref (a 0)), (3, .ref o), (4, .int (nI i))]) {Q : State → Prop}
    (K : LK p l e s m below meth c (dC, dI) cy b i x a o k1 k2 Q) : W p l e room_1 s m #[Value.ref b] below meth c H locs k1 k2 Q (F0 m 1171 ls []) := by
  obtain ⟨hx, hb, hr, hml, hown, hts, hX, hbl, hlocks, hgv⟩ := C0
  have htg : ∀ w ∈ GW, w.before #[Value.ref b] s = true := fun w hw => hts w (List.mem_filter.mp hw).1
  have hA : ∀ q : Nat, s.heap.size ≤ q → (fun q : Nat => s.heap.size ≤ q) q := fun _ h => h
  have hbA : ¬ (fun q : Nat => s.heap.size ≤ q) b := Nat.not_le.mpr hbl
  obtain ⟨hv1, hv2, hv3, hv4⟩ := lw_in5 hL hi
  obtain ⟨a1, D', v, m', e1, e2, iv', sz', an⟩ := o_whyNot iw.1 D (xs (nI i + 1).toNatClampNeg) (xs (nI i + 2).toNatClampNeg) (xs (nI i + 3).toNatClampNeg) (xs (nI i + 4).toNatClampNeg)
  have iw' := iw.up iv' sz'
  refine lv_aload_n hx hb dL_law_1171 rfl (lv_at hl 1 rfl) ?_
  refine lv_aload_n hx hb dL_law_1172 rfl (lv_at hl 0 rfl) ?_
  refine lv_iload hx hb dL_law_1173 (lv_at hl 4 rfl) ?_
  refine lv_iconst (v := 1) hx hb dL_law_1175 (by decide) ?_
  refine lv_iadd hx hb dL_law_1176 ?_
  refine va_sld hx hb hX hbl hbA hS hv1 dL_law_1177 ?_
  refine lv_aload_n hx hb dL_law_1178 rfl (lv_at hl 0 rfl) ?_
  refine lv_iload hx hb dL_law_1179 (lv_at hl 4 rfl) ?_
  refine lv_iconst (v := 2) hx hb dL_law_1181 (by decide) ?_
  refine lv_iadd hx hb dL_law_1182 ?_
  refine va_sld hx hb hX hbl hbA hS hv2 dL_law_1183 ?_
  refine lv_aload_n hx hb dL_law_1184 rfl (lv_at hl 0 rfl) ?_
  refine lv_iload hx hb dL_law_1185 (lv_at hl 4 rfl) ?_
  refine lv_iconst (v := 3) hx hb dL_law_1187 (by decide) ?_
  refine lv_iadd hx hb dL_law_1188 ?_
  refine va_sld hx hb hX hbl hbA hS hv3 dL_law_1189 ?_
  refine lv_aload_n hx hb dL_law_1190 rfl (lv_at hl 0 rfl) ?_
  refine lv_iload hx hb dL_law_1191 (lv_at hl 4 rfl) ?_
  refine lv_iconst (v := 4) hx hb dL_law_1193 (by decide) ?_
  refine lv_iadd hx hb dL_law_1194 ?_
  refine va_sld hx hb hX hbl hbA hS hv4 dL_law_1195 ?_
  refine lv_aload_n hx hb dL_law_1196 rfl (lv_at hl 3 rfl) ?_
  have hk : ∀ k, a1 = .inl k → k = 1 := fun k hq => A1.k an hq
  refine cLW (av := [.ref (x 0), .int (xs (nI i + 1).toNatClampNeg), .int (xs (nI i + 2).toNatClampNeg), .int (xs (nI i + 3).toNatClampNeg), .int (xs (nI i + 4).toNatClampNeg), .ref o]) (rest := []) (st1 := [.int (lk 1 a1)]) (ret := some (.int (lk 1 a1))) (wn := LWd x a o cy F D' P SL SV T WY md (lo g a1)) hx hb hml hown htg hN hK hE hC (c_L_whyNot l dC dI cy hlt x F D (xs (nI i + 1).toNatClampNeg) (xs (nI i + 2).toNatClampNeg) (xs (nI i + 3).toNatClampNeg) (xs (nI i + 4).toNatClampNeg) (a1, D') e1 o g hk) ⟨gw755, gw756, gw58, cw_whyNot⟩ hdL_whyNot rfl ⟨⟨Nat.le_of_ble_eq_true rfl, Nat.le_of_ble_eq_true rfl⟩, (show k1 + 1 ≤ 601024 by omega), (show k2 + 6 ≤ 7293034 by omega)⟩ hP hD hS hA (pm_sfdL _ _ _ _ _ _ _ _ _ _ _) (pn_sfdL _ _ _ _ _ _ _ _ _ _ _) hl.1 rfl (Nat.le_of_ble_eq_true rfl) rfl dL_law_1197 (fun H locs hP hD hS => ?_)
  refine W.eq (g2 := F0 m 1200 ls [.int (lk 1 a1)]) rfl ?_
  refine lv_istore (lv' := [(5, .int (lk 1 a1)), (0, .ref b), (1, .ref (x 0)), (2, .ref (a 0)), (3, .ref o), (4, .int (nI i))]) hx hb dL_law_1200 hl (by decide) rfl (fun ls hl => ?_)
  refine lv_aload_n hx hb dL_law_1202 rfl (lv_at hl 3 rfl) ?_
  refine lv_aload_n hx hb dL_law_1203 rfl (lv_at hl 1 rfl) ?_
  refine lv_iload hx hb dL_law_1204 (lv_at hl 5 rfl) ?_
  refine lv_iconst (v := 1) hx hb dL_law_1206 (by decide) ?_
  refine lv_iadd hx hb dL_law_1207 ?_
  refine va_sld hx hb hX hbl hbA hS hv1 dL_law_1208 ?_
  refine lv_aload_n hx hb dL_law_1209 rfl (lv_at hl 1 rfl) ?_
  refine lv_iload hx hb dL_law_1210 (lv_at hl 5 rfl) ?_
  refine lv_iconst (v := 2) hx hb dL_law_1212 (by decide) ?_
  refine lv_iadd hx hb dL_law_1213 ?_
  refine va_sld hx hb hX hbl hbA hS hv2 dL_law_1214 ?_
  refine lv_aload_n hx hb dL_law_1215 rfl (lv_at hl 1 rfl) ?_
  refine lv_iload hx hb dL_law_1216 (lv_at hl 5 rfl) ?_
  refine lv_iconst (v := 3) hx hb dL_law_1218 (by decide) ?_
  refine lv_iadd hx hb dL_law_1219 ?_
  refine va_sld hx hb hX hbl hbA hS hv3 dL_law_1220 ?_
  refine lv_aload_n hx hb dL_law_1221 rfl (lv_at hl 1 rfl) ?_
  refine lv_iload hx hb dL_law_1222 (lv_at hl 5 rfl) ?_
  refine lv_iconst (v := 4) hx hb dL_law_1224 (by decide) ?_
  refine lv_iadd hx hb dL_law_1225 ?_
  refine va_sld hx hb hX hbl hbA hS hv4 dL_law_1226 ?_
  refine cVp (av := [.int (xs (nI i + 1).toNatClampNeg), .int (xs (nI i + 2).toNatClampNeg), .int (xs (nI i + 3).toNatClampNeg), .int (xs (nI i + 4).toNatClampNeg)]) (rest := []) (st1 := [.int v]) (k1 := k1 + 1) (k2 := k2 + 6) (wn := LWd x a o cy F D' P SL SV T WY m' (lo g a1)) (ci := 4) (q0 := 0) hx hb hml hown htg hN hK (c_X9_whyNot l dC dI cy a md (xs (nI i + 1).toNatClampNeg) (xs (nI i + 2).toNatClampNeg) (xs (nI i + 3).toNatClampNeg) (xs (nI i + 4).toNatClampNeg) (v, m') e2) (g_V gw1193 gw1194 gw1195 gw63 gw1196) hdV_X9_whyNot rfl ⟨⟨Nat.le_of_ble_eq_true rfl, Nat.le_of_ble_eq_true rfl⟩, (show k1 + 1 ≤ 601024 by omega), (show k2 + 6 ≤ 7293034 by omega)⟩ hP hD hS hA ⟨rfl, rfl⟩ rfl (pm_mo _ _ _ _ _ _ _ _ _ _ _) (pn_mo _ _ _ _ _ _ _ _ _ _ _) hl.1 rfl (Nat.le_of_ble_eq_true rfl) rfl rfl rfl dL_law_1227 (fun H locs hP hD hS => ?_)
  refine lv_istore (lv' := [(6, .int v), (5, .int (lk 1 a1)), (0, .ref b), (1, .ref (x 0)), (2, .ref (a 0)), (3, .ref o), (4, .int (nI i))]) hx hb dL_law_1230 hl (by decide) rfl (fun ls hl => ?_)
  refine lv_aload_n hx hb dL_law_1232 rfl (lv_at hl 4 rfl) ?_
  refine cVp (av := []) (rest := []) (st1 := [.int (m_thrown m')]) (k1 := k1 + 1) (k2 := k2 + 6) (wn := LWd x a o cy F D' P SL SV T WY m' (lo g a1)) (ci := 4) (q0 := 0) hx hb hml hown htg hN hK (c_X9_thrown l dC dI cy a m' (m_thrown m') rfl) (g_V gw905 gw906 gw907 gw63 gw908) hdV_X9_thrown rfl ⟨⟨Nat.le_of_ble_eq_true rfl, Nat.le_of_ble_eq_true rfl⟩, (show k1 + 1 ≤ 601024 by omega), (show k2 + 6 ≤ 7293034 by omega)⟩ hP hD hS hA ⟨rfl, rfl⟩ rfl (pm_mo _ _ _ _ _ _ _ _ _ _ _) (pn_mo _ _ _ _ _ _ _ _ _ _ _) hl.1 rfl (Nat.le_of_ble_eq_true rfl) rfl rfl rfl dL_law_1233 (fun H locs hP hD hS => ?_)
  refine lv_iload hx hb dL_law_1236 (lv_at hl 1 rfl) ?_
  refine lv_icmp_eq (tgt := 1243) hx hb dL_law_1238 (by decide) (fun _ => ?_) (fun z => absurd (A1.t an) z)
  refine lv_iload hx hb dL_law_1243 (lv_at hl 1 rfl) ?_
  have fin : W p l e room_1 s m #[Value.ref b] below meth c H locs (k1 + 1) (k2 + 6) Q (F0 m 1260 ls []) := by
    refine lv_goto (tgt := 1741) hx hb dL_law_1260 (by decide) ?_
    refine W.widen (k := k1 + 4) (n := k2 + 24) (by omega) (by omega) ?_
    exact K _ _ _ _ _ _ _ _ _ H locs ls iw' hP hD hS (lv_sub hl [2, 3, 4, 5, 6] rfl)
  refine lv_if_ne (tgt := 1260) hx hb dL_law_1245 (by decide) (fun _ => fin) (fun z0 => ?_)
  refine lv_aload_n hx hb dL_law_1248 rfl (lv_at hl 5 rfl) ?_
  refine lv_iconst (v := 0) hx hb dL_law_1249 (by decide) ?_
  refine va_lald hx hb hK hP 0 4 rfl rfl vp01 dL_law_1250 ?_
  refine lv_iload hx hb dL_law_1251 (lv_at hl 0 rfl) ?_
  refine lv_i2l (v := v.toInt64) hx hb dL_law_1253 rfl ?_
  refine W.lcmp hx hb dL_law_1254 ?_
  refine lv_if_eq (tgt := 1260) hx hb dL_law_1255 (by decide) (fun _ => fin) (fun z => absurd ((lg_cmp_eq _ _).mpr (A1.lo an z0)) z)
set_option maxHeartbeats 4000000 in
set_option maxRecDepth 100000 in
theorem law_cut {p : Program} {l : Launch} {e : Env} {s : State} {m : MethodId} {below : List Frame} {meth : Method} {c : Code} {dC : Nat → ClassId} {dI : Nat → Nat → Nat} {cy : Nat → ClassId} {b L : Nat} {xs : Nat → Int32} (hL : L ≤ 2560) (C0 : lw_At p s m meth c b L xs) (hlt : l.stackTraces = false) (hN : NW s) (hC : NC s) (hE : EX (fun q : Nat => s.heap.size ≤ q) s s.heap) (hK : va_K (dC, dI) vwCl (TY cy) s) {i : Nat} (hi : i + 5 ≤ L)
    {x a : Nat → Nat} {o : Nat} {F D : Fig} {P : PastS} {SL : Nat → Fig} {SV : Nat → Int32} {T : TextS} {WY : Nat → Int32} {md : Mod} {g : Nat → Int64} (iw : IW F P SL SV T md) {H : Heap} {locs : List Loc} {k1 k2 : Nat} (hr1 : k1 + 4 ≤ 601024) (hr2 : k2 + 24 ≤ 7293034)
    (hP : va_P (dC, dI) vwCl (LWd x a o cy F D P SL SV T WY md g) H) (hD : va_D (fun q : Nat => s.heap.size ≤ q) (LWd x a o cy F D P SL SV T WY md g)) (hS : va_S (fun q : Nat => s.heap.size ≤ q) s.heap H locs) {ls : Array Slot} (hl : lv_has ls 7 [(0, .ref b), (1, .ref (x 0)), (2, .ref (a 0)), (3, .ref o), (4, .int (nI i))]) {Q : State → Prop}
    (K : LK p l e s m below meth c (dC, dI) cy b i x a o k1 k2 Q) : W p l e room_1 s m #[Value.ref b] below meth c H locs k1 k2 Q (F0 m 1263 ls []) := by
  obtain ⟨hx, hb, hr, hml, hown, hts, hX, hbl, hlocks, hgv⟩ := C0
  have htg : ∀ w ∈ GW, w.before #[Value.ref b] s = true := fun w hw => hts w (List.mem_filter.mp hw).1
  have hA : ∀ q : Nat, s.heap.size ≤ q → (fun q : Nat => s.heap.size ≤ q) q := fun _ h => h
  have hbA : ¬ (fun q : Nat => s.heap.size ≤ q) b := Nat.not_le.mpr hbl
  obtain ⟨hv1, hv2, hv3, hv4⟩ := lw_in5 hL hi
  obtain ⟨a1, v, m', e1, e2, iv', sz', an⟩ := o_cut iw.1 (xs (nI i + 1).toNatClampNeg)
  have iw' := iw.up iv' sz'
  refine lv_aload_n hx hb dL_law_1263 rfl (lv_at hl 1 rfl) ?_
  refine lv_aload_n hx hb dL_law_1264 rfl (lv_at hl 0 rfl) ?_
  refine lv_iload hx hb dL_law_1265 (lv_at hl 4 rfl) ?_
  refine lv_iconst (v := 1) hx hb dL_law_1267 (by decide) ?_
  refine lv_iadd hx hb dL_law_1268 ?_
  refine va_sld hx hb hX hbl hbA hS hv1 dL_law_1269 ?_
  refine lv_aload_n hx hb dL_law_1270 rfl (lv_at hl 3 rfl) ?_
  have hk : ∀ k, a1 = .inl k → k = 1 := fun k hq => A1.k an hq
  refine cLW (av := [.ref (x 0), .int (xs (nI i + 1).toNatClampNeg), .ref o]) (rest := []) (st1 := [.int (lk 1 a1)]) (ret := some (.int (lk 1 a1))) (wn := LWd x a o cy F D P SL SV T WY md (lo g a1)) hx hb hml hown htg hN hK hE hC (c_L_cut l dC dI cy hlt x F (xs (nI i + 1).toNatClampNeg) a1 e1 o g hk) ⟨gw764, gw765, gw58, cw_cut⟩ hdL_cut rfl ⟨⟨Nat.le_of_ble_eq_true rfl, Nat.le_of_ble_eq_true rfl⟩, (show k1 + 1 ≤ 601024 by omega), (show k2 + 6 ≤ 7293034 by omega)⟩ hP hD hS hA (pm_sfL _ _ _ _ _ _ _ _ _ _ _) (pn_sfL _ _ _ _ _ _ _ _ _ _ _) hl.1 rfl (Nat.le_of_ble_eq_true rfl) rfl dL_law_1271 (fun H locs hP hD hS => ?_)
  refine W.eq (g2 := F0 m 1274 ls [.int (lk 1 a1)]) rfl ?_
  refine lv_istore (lv' := [(5, .int (lk 1 a1)), (0, .ref b), (1, .ref (x 0)), (2, .ref (a 0)), (3, .ref o), (4, .int (nI i))]) hx hb dL_law_1274 hl (by decide) rfl (fun ls hl => ?_)
  refine lv_aload_n hx hb dL_law_1276 rfl (lv_at hl 3 rfl) ?_
  refine lv_aload_n hx hb dL_law_1277 rfl (lv_at hl 1 rfl) ?_
  refine lv_iload hx hb dL_law_1278 (lv_at hl 5 rfl) ?_
  refine lv_iconst (v := 1) hx hb dL_law_1280 (by decide) ?_
  refine lv_iadd hx hb dL_law_1281 ?_
  refine va_sld hx hb hX hbl hbA hS hv1 dL_law_1282 ?_
  refine cVp (av := [.int (xs (nI i + 1).toNatClampNeg)]) (rest := []) (st1 := [.int v]) (k1 := k1 + 1) (k2 := k2 + 6) (wn := LWd x a o cy F D P SL SV T WY m' (lo g a1)) (ci := 4) (q0 := 0) hx hb hml hown htg hN hK (c_X9_cut l dC dI cy a md (xs (nI i + 1).toNatClampNeg) (v, m') e2) (g_V gw1197 gw1198 gw1199 gw63 gw1200) hdV_X9_cut rfl ⟨⟨Nat.le_of_ble_eq_true rfl, Nat.le_of_ble_eq_true rfl⟩, (show k1 + 1 ≤ 601024 by omega), (show k2 + 6 ≤ 7293034 by omega)⟩ hP hD hS hA ⟨rfl, rfl⟩ rfl (pm_mo _ _ _ _ _ _ _ _ _ _ _) (pn_mo _ _ _ _ _ _ _ _ _ _ _) hl.1 rfl (Nat.le_of_ble_eq_true rfl) rfl rfl rfl dL_law_1283 (fun H locs hP hD hS => ?_)
  refine lv_istore (lv' := [(6, .int v), (5, .int (lk 1 a1)), (0, .ref b), (1, .ref (x 0)), (2, .ref (a 0)), (3, .ref o), (4, .int (nI i))]) hx hb dL_law_1286 hl (by decide) rfl (fun ls hl => ?_)
  refine lv_aload_n hx hb dL_law_1288 rfl (lv_at hl 4 rfl) ?_
  refine cVp (av := []) (rest := []) (st1 := [.int (m_thrown m')]) (k1 := k1 + 1) (k2 := k2 + 6) (wn := LWd x a o cy F D P SL SV T WY m' (lo g a1)) (ci := 4) (q0 := 0) hx hb hml hown htg hN hK (c_X9_thrown l dC dI cy a m' (m_thrown m') rfl) (g_V gw905 gw906 gw907 gw63 gw908) hdV_X9_thrown rfl ⟨⟨Nat.le_of_ble_eq_true rfl, Nat.le_of_ble_eq_true rfl⟩, (show k1 + 1 ≤ 601024 by omega), (show k2 + 6 ≤ 7293034 by omega)⟩ hP hD hS hA ⟨rfl, rfl⟩ rfl (pm_mo _ _ _ _ _ _ _ _ _ _ _) (pn_mo _ _ _ _ _ _ _ _ _ _ _) hl.1 rfl (Nat.le_of_ble_eq_true rfl) rfl rfl rfl dL_law_1289 (fun H locs hP hD hS => ?_)
  refine lv_iload hx hb dL_law_1292 (lv_at hl 1 rfl) ?_
  refine lv_icmp_eq (tgt := 1299) hx hb dL_law_1294 (by decide) (fun _ => ?_) (fun z => absurd (A1.t an) z)
  refine lv_iload hx hb dL_law_1299 (lv_at hl 1 rfl) ?_
  have fin : W p l e room_1 s m #[Value.ref b] below meth c H locs (k1 + 1) (k2 + 6) Q (F0 m 1316 ls []) := by
    refine lv_goto (tgt := 1741) hx hb dL_law_1316 (by decide) ?_
    refine W.widen (k := k1 + 4) (n := k2 + 24) (by omega) (by omega) ?_
    exact K _ _ _ _ _ _ _ _ _ H locs ls iw' hP hD hS (lv_sub hl [2, 3, 4, 5, 6] rfl)
  refine lv_if_ne (tgt := 1316) hx hb dL_law_1301 (by decide) (fun _ => fin) (fun z0 => ?_)
  refine lv_aload_n hx hb dL_law_1304 rfl (lv_at hl 5 rfl) ?_
  refine lv_iconst (v := 0) hx hb dL_law_1305 (by decide) ?_
  refine va_lald hx hb hK hP 0 4 rfl rfl vp01 dL_law_1306 ?_
  refine lv_iload hx hb dL_law_1307 (lv_at hl 0 rfl) ?_
  refine lv_i2l (v := v.toInt64) hx hb dL_law_1309 rfl ?_
  refine W.lcmp hx hb dL_law_1310 ?_
  refine lv_if_eq (tgt := 1316) hx hb dL_law_1311 (by decide) (fun _ => fin) (fun z => absurd ((lg_cmp_eq _ _).mpr (A1.lo an z0)) z)
set_option maxHeartbeats 4000000 in
set_option maxRecDepth 100000 in
theorem law_bestMove {p : Program} {l : Launch} {e : Env} {s : State} {m : MethodId} {below : List Frame} {meth : Method} {c : Code} {dC : Nat → ClassId} {dI : Nat → Nat → Nat} {cy : Nat → ClassId} {b L : Nat} {xs : Nat → Int32} (hL : L ≤ 2560) (C0 : lw_At p s m meth c b L xs) (hlt : l.stackTraces = false) (hN : NW s) (hC : NC s) (hE : EX (fun q : Nat => s.heap.size ≤ q) s s.heap) (hK : va_K (dC, dI) vwCl (TY cy) s) {i : Nat} (hi : i + 5 ≤ L)
    {x a : Nat → Nat} {o : Nat} {F D : Fig} {P : PastS} {SL : Nat → Fig} {SV : Nat → Int32} {T : TextS} {WY : Nat → Int32} {md : Mod} {g : Nat → Int64} (iw : IW F P SL SV T md) {H : Heap} {locs : List Loc} {k1 k2 : Nat} (hr1 : k1 + 4 ≤ 601024) (hr2 : k2 + 24 ≤ 7293034)
    (hP : va_P (dC, dI) vwCl (LWd x a o cy F D P SL SV T WY md g) H) (hD : va_D (fun q : Nat => s.heap.size ≤ q) (LWd x a o cy F D P SL SV T WY md g)) (hS : va_S (fun q : Nat => s.heap.size ≤ q) s.heap H locs) {ls : Array Slot} (hl : lv_has ls 7 [(0, .ref b), (1, .ref (x 0)), (2, .ref (a 0)), (3, .ref o), (4, .int (nI i))]) {Q : State → Prop}
    (K : LK p l e s m below meth c (dC, dI) cy b i x a o k1 k2 Q) : W p l e room_1 s m #[Value.ref b] below meth c H locs k1 k2 Q (F0 m 1319 ls []) := by
  obtain ⟨hx, hb, hr, hml, hown, hts, hX, hbl, hlocks, hgv⟩ := C0
  have htg : ∀ w ∈ GW, w.before #[Value.ref b] s = true := fun w hw => hts w (List.mem_filter.mp hw).1
  have hA : ∀ q : Nat, s.heap.size ≤ q → (fun q : Nat => s.heap.size ≤ q) q := fun _ h => h
  have hbA : ¬ (fun q : Nat => s.heap.size ≤ q) b := Nat.not_le.mpr hbl
  obtain ⟨hv1, hv2, hv3, hv4⟩ := lw_in5 hL hi
  obtain ⟨v, D', m', e1, e2, iv', sz', th⟩ := o_bestMove iw.1 D
  have iw' := iw.up iv' sz'
  refine lv_aload_n hx hb dL_law_1319 rfl (lv_at hl 1 rfl) ?_
  refine cVp (av := []) (rest := []) (st1 := [.int v]) (k1 := k1 + 0) (k2 := k2 + 0) (wn := LWd x a o cy F D' P SL SV T WY md g) (ci := 3) (q0 := 0) hx hb hml hown htg hN hK (c_X8_bestMove l dC dI cy x F D (v, D') e1) (g_V gw346 gw347 gw348 gw59 gw349) hdV_X8_bestMove rfl ⟨⟨Nat.le_of_ble_eq_true rfl, Nat.le_of_ble_eq_true rfl⟩, (show k1 + 0 ≤ 601024 by omega), (show k2 + 0 ≤ 7293034 by omega)⟩ hP hD hS hA ⟨rfl, rfl⟩ rfl (pm_sfd _ _ _ _ _ _ _ _ _ _ _) (pn_sfd _ _ _ _ _ _ _ _ _ _ _) hl.1 rfl (Nat.le_of_ble_eq_true rfl) rfl rfl rfl dL_law_1320 (fun H locs hP hD hS => ?_)
  refine lv_aload_n hx hb dL_law_1323 rfl (lv_at hl 2 rfl) ?_
  refine cVp (av := []) (rest := [.int v]) (st1 := [.int v, .int v]) (k1 := k1 + 0) (k2 := k2 + 0) (wn := LWd x a o cy F D' P SL SV T WY m' g) (ci := 4) (q0 := 0) hx hb hml hown htg hN hK (c_X9_bestMove l dC dI cy a md (v, m') e2) (g_V gw1201 gw1202 gw1203 gw63 gw1204) hdV_X9_bestMove rfl ⟨⟨Nat.le_of_ble_eq_true rfl, Nat.le_of_ble_eq_true rfl⟩, (show k1 + 0 ≤ 601024 by omega), (show k2 + 0 ≤ 7293034 by omega)⟩ hP hD hS hA ⟨rfl, rfl⟩ rfl (pm_mo _ _ _ _ _ _ _ _ _ _ _) (pn_mo _ _ _ _ _ _ _ _ _ _ _) hl.1 rfl (Nat.le_of_ble_eq_true rfl) rfl rfl rfl dL_law_1324 (fun H locs hP hD hS => ?_)
  refine lv_icmp_eq (tgt := 1741) hx hb dL_law_1327 (by decide) (fun _ => ?_) (fun z => absurd rfl z)
  refine W.widen (k := k1 + 4) (n := k2 + 24) (by omega) (by omega) ?_
  exact K _ _ _ _ _ _ _ _ _ H locs ls iw' hP hD hS hl
set_option maxHeartbeats 4000000 in
set_option maxRecDepth 100000 in
theorem law_inRow {p : Program} {l : Launch} {e : Env} {s : State} {m : MethodId} {below : List Frame} {meth : Method} {c : Code} {dC : Nat → ClassId} {dI : Nat → Nat → Nat} {cy : Nat → ClassId} {b L : Nat} {xs : Nat → Int32} (hL : L ≤ 2560) (C0 : lw_At p s m meth c b L xs) (hlt : l.stackTraces = false) (hN : NW s) (hC : NC s) (hE : EX (fun q : Nat => s.heap.size ≤ q) s s.heap) (hK : va_K (dC, dI) vwCl (TY cy) s) {i : Nat} (hi : i + 5 ≤ L)
    {x a : Nat → Nat} {o : Nat} {F D : Fig} {P : PastS} {SL : Nat → Fig} {SV : Nat → Int32} {T : TextS} {WY : Nat → Int32} {md : Mod} {g : Nat → Int64} (iw : IW F P SL SV T md) {H : Heap} {locs : List Loc} {k1 k2 : Nat} (hr1 : k1 + 4 ≤ 601024) (hr2 : k2 + 24 ≤ 7293034)
    (hP : va_P (dC, dI) vwCl (LWd x a o cy F D P SL SV T WY md g) H) (hD : va_D (fun q : Nat => s.heap.size ≤ q) (LWd x a o cy F D P SL SV T WY md g)) (hS : va_S (fun q : Nat => s.heap.size ≤ q) s.heap H locs) {ls : Array Slot} (hl : lv_has ls 7 [(0, .ref b), (1, .ref (x 0)), (2, .ref (a 0)), (3, .ref o), (4, .int (nI i))]) {Q : State → Prop}
    (K : LK p l e s m below meth c (dC, dI) cy b i x a o k1 k2 Q) : W p l e room_1 s m #[Value.ref b] below meth c H locs k1 k2 Q (F0 m 1332 ls []) := by
  obtain ⟨hx, hb, hr, hml, hown, hts, hX, hbl, hlocks, hgv⟩ := C0
  have htg : ∀ w ∈ GW, w.before #[Value.ref b] s = true := fun w hw => hts w (List.mem_filter.mp hw).1
  have hA : ∀ q : Nat, s.heap.size ≤ q → (fun q : Nat => s.heap.size ≤ q) q := fun _ h => h
  have hbA : ¬ (fun q : Nat => s.heap.size ≤ q) b := Nat.not_le.mpr hbl
  obtain ⟨hv1, hv2, hv3, hv4⟩ := lw_in5 hL hi
  by_cases cb : (xs (nI i + 2).toNatClampNeg) = 0
  · skip
    obtain ⟨a1, v, m', e1, e2, iv', sz', an⟩ := o_inRow iw.1 (xs (nI i + 1).toNatClampNeg) 0
    have iw' := iw.up iv' sz'
    refine lv_aload_n hx hb dL_law_1332 rfl (lv_at hl 1 rfl) ?_
    refine lv_aload_n hx hb dL_law_1333 rfl (lv_at hl 0 rfl) ?_
    refine lv_iload hx hb dL_law_1334 (lv_at hl 4 rfl) ?_
    refine lv_iconst (v := 1) hx hb dL_law_1336 (by decide) ?_
    refine lv_iadd hx hb dL_law_1337 ?_
    refine va_sld hx hb hX hbl hbA hS hv1 dL_law_1338 ?_
    refine lv_aload_n hx hb dL_law_1339 rfl (lv_at hl 0 rfl) ?_
    refine lv_iload hx hb dL_law_1340 (lv_at hl 4 rfl) ?_
    refine lv_iconst (v := 2) hx hb dL_law_1342 (by decide) ?_
    refine lv_iadd hx hb dL_law_1343 ?_
    refine va_sld hx hb hX hbl hbA hS hv2 dL_law_1344 ?_
    refine lv_if_eq (tgt := 1352) hx hb dL_law_1345 (by decide) (fun _ => ?_) (fun z => absurd cb z)
    refine lv_iconst (v := 0) hx hb dL_law_1352 (by decide) ?_
    refine lv_aload_n hx hb dL_law_1353 rfl (lv_at hl 3 rfl) ?_
    have hk : ∀ k, a1 = .inl k → k = 2 := fun k hq => A1.k an hq
    refine cLW (av := [.ref (x 0), .int (xs (nI i + 1).toNatClampNeg), .int 0, .ref o]) (rest := []) (st1 := [.int (lk 2 a1)]) (ret := some (.int (lk 2 a1))) (wn := LWd x a o cy F D P SL SV T WY md (lo g a1)) hx hb hml hown htg hN hK hE hC (c_L_inRow l dC dI cy hlt x F (xs (nI i + 1).toNatClampNeg) 0 a1 e1 o g hk) ⟨gw772, gw773, gw58, cw_inRow⟩ hdL_inRow rfl ⟨⟨Nat.le_of_ble_eq_true rfl, Nat.le_of_ble_eq_true rfl⟩, (show k1 + 1 ≤ 601024 by omega), (show k2 + 6 ≤ 7293034 by omega)⟩ hP hD hS hA (pm_sfL _ _ _ _ _ _ _ _ _ _ _) (pn_sfL _ _ _ _ _ _ _ _ _ _ _) hl.1 rfl (Nat.le_of_ble_eq_true rfl) rfl dL_law_1354 (fun H locs hP hD hS => ?_)
    refine W.eq (g2 := F0 m 1357 ls [.int (lk 2 a1)]) rfl ?_
    refine lv_istore (lv' := [(5, .int (lk 2 a1)), (0, .ref b), (1, .ref (x 0)), (2, .ref (a 0)), (3, .ref o), (4, .int (nI i))]) hx hb dL_law_1357 hl (by decide) rfl (fun ls hl => ?_)
    refine lv_aload_n hx hb dL_law_1359 rfl (lv_at hl 3 rfl) ?_
    refine lv_aload_n hx hb dL_law_1360 rfl (lv_at hl 1 rfl) ?_
    refine lv_iload hx hb dL_law_1361 (lv_at hl 5 rfl) ?_
    refine lv_iconst (v := 1) hx hb dL_law_1363 (by decide) ?_
    refine lv_iadd hx hb dL_law_1364 ?_
    refine va_sld hx hb hX hbl hbA hS hv1 dL_law_1365 ?_
    refine lv_aload_n hx hb dL_law_1366 rfl (lv_at hl 1 rfl) ?_
    refine lv_iload hx hb dL_law_1367 (lv_at hl 5 rfl) ?_
    refine lv_iconst (v := 2) hx hb dL_law_1369 (by decide) ?_
    refine lv_iadd hx hb dL_law_1370 ?_
    refine va_sld hx hb hX hbl hbA hS hv2 dL_law_1371 ?_
    refine lv_if_eq (tgt := 1379) hx hb dL_law_1372 (by decide) (fun _ => ?_) (fun z => absurd cb z)
    refine lv_iconst (v := 0) hx hb dL_law_1379 (by decide) ?_
    refine cVp (av := [.int (xs (nI i + 1).toNatClampNeg), .int 0]) (rest := []) (st1 := [.int v]) (k1 := k1 + 1) (k2 := k2 + 6) (wn := LWd x a o cy F D P SL SV T WY m' (lo g a1)) (ci := 4) (q0 := 0) hx hb hml hown htg hN hK (c_X9_inRow l dC dI cy a md (xs (nI i + 1).toNatClampNeg) 0 (v, m') e2) (g_V gw1215 gw1216 gw1217 gw63 gw1218) hdV_X9_inRow rfl ⟨⟨Nat.le_of_ble_eq_true rfl, Nat.le_of_ble_eq_true rfl⟩, (show k1 + 1 ≤ 601024 by omega), (show k2 + 6 ≤ 7293034 by omega)⟩ hP hD hS hA ⟨rfl, rfl⟩ rfl (pm_mo _ _ _ _ _ _ _ _ _ _ _) (pn_mo _ _ _ _ _ _ _ _ _ _ _) hl.1 rfl (Nat.le_of_ble_eq_true rfl) rfl rfl rfl dL_law_1380 (fun H locs hP hD hS => ?_)
    refine lv_istore (lv' := [(6, .int v), (5, .int (lk 2 a1)), (0, .ref b), (1, .ref (x 0)), (2, .ref (a 0)), (3, .ref o), (4, .int (nI i))]) hx hb dL_law_1383 hl (by decide) rfl (fun ls hl => ?_)
    refine lv_aload_n hx hb dL_law_1385 rfl (lv_at hl 4 rfl) ?_
    refine cVp (av := []) (rest := []) (st1 := [.int (m_thrown m')]) (k1 := k1 + 1) (k2 := k2 + 6) (wn := LWd x a o cy F D P SL SV T WY m' (lo g a1)) (ci := 4) (q0 := 0) hx hb hml hown htg hN hK (c_X9_thrown l dC dI cy a m' (m_thrown m') rfl) (g_V gw905 gw906 gw907 gw63 gw908) hdV_X9_thrown rfl ⟨⟨Nat.le_of_ble_eq_true rfl, Nat.le_of_ble_eq_true rfl⟩, (show k1 + 1 ≤ 601024 by omega), (show k2 + 6 ≤ 7293034 by omega)⟩ hP hD hS hA ⟨rfl, rfl⟩ rfl (pm_mo _ _ _ _ _ _ _ _ _ _ _) (pn_mo _ _ _ _ _ _ _ _ _ _ _) hl.1 rfl (Nat.le_of_ble_eq_true rfl) rfl rfl rfl dL_law_1386 (fun H locs hP hD hS => ?_)
    refine lv_iload hx hb dL_law_1389 (lv_at hl 1 rfl) ?_
    refine lv_icmp_eq (tgt := 1396) hx hb dL_law_1391 (by decide) (fun _ => ?_) (fun z => absurd (A1.t an) z)
    refine lv_iload hx hb dL_law_1396 (lv_at hl 1 rfl) ?_
    have fin : W p l e room_1 s m #[Value.ref b] below meth c H locs (k1 + 1) (k2 + 6) Q (F0 m 1413 ls []) := by
      refine lv_goto (tgt := 1741) hx hb dL_law_1413 (by decide) ?_
      refine W.widen (k := k1 + 4) (n := k2 + 24) (by omega) (by omega) ?_
      exact K _ _ _ _ _ _ _ _ _ H locs ls iw' hP hD hS (lv_sub hl [2, 3, 4, 5, 6] rfl)
    refine lv_if_ne (tgt := 1413) hx hb dL_law_1398 (by decide) (fun _ => fin) (fun z0 => ?_)
    refine lv_aload_n hx hb dL_law_1401 rfl (lv_at hl 5 rfl) ?_
    refine lv_iconst (v := 0) hx hb dL_law_1402 (by decide) ?_
    refine va_lald hx hb hK hP 0 4 rfl rfl vp01 dL_law_1403 ?_
    refine lv_iload hx hb dL_law_1404 (lv_at hl 0 rfl) ?_
    refine lv_i2l (v := v.toInt64) hx hb dL_law_1406 rfl ?_
    refine W.lcmp hx hb dL_law_1407 ?_
    refine lv_if_eq (tgt := 1413) hx hb dL_law_1408 (by decide) (fun _ => fin) (fun z => absurd ((lg_cmp_eq _ _).mpr (A1.lo an z0)) z)
  · skip
    obtain ⟨a1, v, m', e1, e2, iv', sz', an⟩ := o_inRow iw.1 (xs (nI i + 1).toNatClampNeg) 1
    have iw' := iw.up iv' sz'
    refine lv_aload_n hx hb dL_law_1332 rfl (lv_at hl 1 rfl) ?_
    refine lv_aload_n hx hb dL_law_1333 rfl (lv_at hl 0 rfl) ?_
    refine lv_iload hx hb dL_law_1334 (lv_at hl 4 rfl) ?_
    refine lv_iconst (v := 1) hx hb dL_law_1336 (by decide) ?_
    refine lv_iadd hx hb dL_law_1337 ?_
    refine va_sld hx hb hX hbl hbA hS hv1 dL_law_1338 ?_
    refine lv_aload_n hx hb dL_law_1339 rfl (lv_at hl 0 rfl) ?_
    refine lv_iload hx hb dL_law_1340 (lv_at hl 4 rfl) ?_
    refine lv_iconst (v := 2) hx hb dL_law_1342 (by decide) ?_
    refine lv_iadd hx hb dL_law_1343 ?_
    refine va_sld hx hb hX hbl hbA hS hv2 dL_law_1344 ?_
    refine lv_if_eq (tgt := 1352) hx hb dL_law_1345 (by decide) (fun z => absurd z cb) (fun _ => ?_)
    refine lv_iconst (v := 1) hx hb dL_law_1348 (by decide) ?_
    refine lv_goto (tgt := 1353) hx hb dL_law_1349 (by decide) ?_
    refine lv_aload_n hx hb dL_law_1353 rfl (lv_at hl 3 rfl) ?_
    have hk : ∀ k, a1 = .inl k → k = 2 := fun k hq => A1.k an hq
    refine cLW (av := [.ref (x 0), .int (xs (nI i + 1).toNatClampNeg), .int 1, .ref o]) (rest := []) (st1 := [.int (lk 2 a1)]) (ret := some (.int (lk 2 a1))) (wn := LWd x a o cy F D P SL SV T WY md (lo g a1)) hx hb hml hown htg hN hK hE hC (c_L_inRow l dC dI cy hlt x F (xs (nI i + 1).toNatClampNeg) 1 a1 e1 o g hk) ⟨gw772, gw773, gw58, cw_inRow⟩ hdL_inRow rfl ⟨⟨Nat.le_of_ble_eq_true rfl, Nat.le_of_ble_eq_true rfl⟩, (show k1 + 1 ≤ 601024 by omega), (show k2 + 6 ≤ 7293034 by omega)⟩ hP hD hS hA (pm_sfL _ _ _ _ _ _ _ _ _ _ _) (pn_sfL _ _ _ _ _ _ _ _ _ _ _) hl.1 rfl (Nat.le_of_ble_eq_true rfl) rfl dL_law_1354 (fun H locs hP hD hS => ?_)
    refine W.eq (g2 := F0 m 1357 ls [.int (lk 2 a1)]) rfl ?_
    refine lv_istore (lv' := [(5, .int (lk 2 a1)), (0, .ref b), (1, .ref (x 0)), (2, .ref (a 0)), (3, .ref o), (4, .int (nI i))]) hx hb dL_law_1357 hl (by decide) rfl (fun ls hl => ?_)
    refine lv_aload_n hx hb dL_law_1359 rfl (lv_at hl 3 rfl) ?_
    refine lv_aload_n hx hb dL_law_1360 rfl (lv_at hl 1 rfl) ?_
    refine lv_iload hx hb dL_law_1361 (lv_at hl 5 rfl) ?_
    refine lv_iconst (v := 1) hx hb dL_law_1363 (by decide) ?_
    refine lv_iadd hx hb dL_law_1364 ?_
    refine va_sld hx hb hX hbl hbA hS hv1 dL_law_1365 ?_
    refine lv_aload_n hx hb dL_law_1366 rfl (lv_at hl 1 rfl) ?_
    refine lv_iload hx hb dL_law_1367 (lv_at hl 5 rfl) ?_
    refine lv_iconst (v := 2) hx hb dL_law_1369 (by decide) ?_
    refine lv_iadd hx hb dL_law_1370 ?_
    refine va_sld hx hb hX hbl hbA hS hv2 dL_law_1371 ?_
    refine lv_if_eq (tgt := 1379) hx hb dL_law_1372 (by decide) (fun z => absurd z cb) (fun _ => ?_)
    refine lv_iconst (v := 1) hx hb dL_law_1375 (by decide) ?_
    refine lv_goto (tgt := 1380) hx hb dL_law_1376 (by decide) ?_
    refine cVp (av := [.int (xs (nI i + 1).toNatClampNeg), .int 1]) (rest := []) (st1 := [.int v]) (k1 := k1 + 1) (k2 := k2 + 6) (wn := LWd x a o cy F D P SL SV T WY m' (lo g a1)) (ci := 4) (q0 := 0) hx hb hml hown htg hN hK (c_X9_inRow l dC dI cy a md (xs (nI i + 1).toNatClampNeg) 1 (v, m') e2) (g_V gw1215 gw1216 gw1217 gw63 gw1218) hdV_X9_inRow rfl ⟨⟨Nat.le_of_ble_eq_true rfl, Nat.le_of_ble_eq_true rfl⟩, (show k1 + 1 ≤ 601024 by omega), (show k2 + 6 ≤ 7293034 by omega)⟩ hP hD hS hA ⟨rfl, rfl⟩ rfl (pm_mo _ _ _ _ _ _ _ _ _ _ _) (pn_mo _ _ _ _ _ _ _ _ _ _ _) hl.1 rfl (Nat.le_of_ble_eq_true rfl) rfl rfl rfl dL_law_1380 (fun H locs hP hD hS => ?_)
    refine lv_istore (lv' := [(6, .int v), (5, .int (lk 2 a1)), (0, .ref b), (1, .ref (x 0)), (2, .ref (a 0)), (3, .ref o), (4, .int (nI i))]) hx hb dL_law_1383 hl (by decide) rfl (fun ls hl => ?_)
    refine lv_aload_n hx hb dL_law_1385 rfl (lv_at hl 4 rfl) ?_
    refine cVp (av := []) (rest := []) (st1 := [.int (m_thrown m')]) (k1 := k1 + 1) (k2 := k2 + 6) (wn := LWd x a o cy F D P SL SV T WY m' (lo g a1)) (ci := 4) (q0 := 0) hx hb hml hown htg hN hK (c_X9_thrown l dC dI cy a m' (m_thrown m') rfl) (g_V gw905 gw906 gw907 gw63 gw908) hdV_X9_thrown rfl ⟨⟨Nat.le_of_ble_eq_true rfl, Nat.le_of_ble_eq_true rfl⟩, (show k1 + 1 ≤ 601024 by omega), (show k2 + 6 ≤ 7293034 by omega)⟩ hP hD hS hA ⟨rfl, rfl⟩ rfl (pm_mo _ _ _ _ _ _ _ _ _ _ _) (pn_mo _ _ _ _ _ _ _ _ _ _ _) hl.1 rfl (Nat.le_of_ble_eq_true rfl) rfl rfl rfl dL_law_1386 (fun H locs hP hD hS => ?_)
    refine lv_iload hx hb dL_law_1389 (lv_at hl 1 rfl) ?_
    refine lv_icmp_eq (tgt := 1396) hx hb dL_law_1391 (by decide) (fun _ => ?_) (fun z => absurd (A1.t an) z)
    refine lv_iload hx hb dL_law_1396 (lv_at hl 1 rfl) ?_
    have fin : W p l e room_1 s m #[Value.ref b] below meth c H locs (k1 + 1) (k2 + 6) Q (F0 m 1413 ls []) := by
      refine lv_goto (tgt := 1741) hx hb dL_law_1413 (by decide) ?_
      refine W.widen (k := k1 + 4) (n := k2 + 24) (by omega) (by omega) ?_
      exact K _ _ _ _ _ _ _ _ _ H locs ls iw' hP hD hS (lv_sub hl [2, 3, 4, 5, 6] rfl)
    refine lv_if_ne (tgt := 1413) hx hb dL_law_1398 (by decide) (fun _ => fin) (fun z0 => ?_)
    refine lv_aload_n hx hb dL_law_1401 rfl (lv_at hl 5 rfl) ?_
    refine lv_iconst (v := 0) hx hb dL_law_1402 (by decide) ?_
    refine va_lald hx hb hK hP 0 4 rfl rfl vp01 dL_law_1403 ?_
    refine lv_iload hx hb dL_law_1404 (lv_at hl 0 rfl) ?_
    refine lv_i2l (v := v.toInt64) hx hb dL_law_1406 rfl ?_
    refine W.lcmp hx hb dL_law_1407 ?_
    refine lv_if_eq (tgt := 1413) hx hb dL_law_1408 (by decide) (fun _ => fin) (fun z => absurd ((lg_cmp_eq _ _).mpr (A1.lo an z0)) z)
set_option maxHeartbeats 4000000 in
set_option maxRecDepth 100000 in
theorem law_cuttings {p : Program} {l : Launch} {e : Env} {s : State} {m : MethodId} {below : List Frame} {meth : Method} {c : Code} {dC : Nat → ClassId} {dI : Nat → Nat → Nat} {cy : Nat → ClassId} {b L : Nat} {xs : Nat → Int32} (hL : L ≤ 2560) (C0 : lw_At p s m meth c b L xs) (hlt : l.stackTraces = false) (hN : NW s) (hC : NC s) (hE : EX (fun q : Nat => s.heap.size ≤ q) s s.heap) (hK : va_K (dC, dI) vwCl (TY cy) s) {i : Nat} (hi : i + 5 ≤ L)
    {x a : Nat → Nat} {o : Nat} {F D : Fig} {P : PastS} {SL : Nat → Fig} {SV : Nat → Int32} {T : TextS} {WY : Nat → Int32} {md : Mod} {g : Nat → Int64} (iw : IW F P SL SV T md) {H : Heap} {locs : List Loc} {k1 k2 : Nat} (hr1 : k1 + 4 ≤ 601024) (hr2 : k2 + 24 ≤ 7293034)
    (hP : va_P (dC, dI) vwCl (LWd x a o cy F D P SL SV T WY md g) H) (hD : va_D (fun q : Nat => s.heap.size ≤ q) (LWd x a o cy F D P SL SV T WY md g)) (hS : va_S (fun q : Nat => s.heap.size ≤ q) s.heap H locs) {ls : Array Slot} (hl : lv_has ls 7 [(0, .ref b), (1, .ref (x 0)), (2, .ref (a 0)), (3, .ref o), (4, .int (nI i))]) {Q : State → Prop}
    (K : LK p l e s m below meth c (dC, dI) cy b i x a o k1 k2 Q) : W p l e room_1 s m #[Value.ref b] below meth c H locs k1 k2 Q (F0 m 1416 ls []) := by
  obtain ⟨hx, hb, hr, hml, hown, hts, hX, hbl, hlocks, hgv⟩ := C0
  have htg : ∀ w ∈ GW, w.before #[Value.ref b] s = true := fun w hw => hts w (List.mem_filter.mp hw).1
  have hA : ∀ q : Nat, s.heap.size ≤ q → (fun q : Nat => s.heap.size ≤ q) q := fun _ h => h
  have hbA : ¬ (fun q : Nat => s.heap.size ≤ q) b := Nat.not_le.mpr hbl
  obtain ⟨hv1, hv2, hv3, hv4⟩ := lw_in5 hL hi
  obtain ⟨v, WY', m', e1, e2, iv', sz', th⟩ := o_cuttings iw.1 WY
  have iw' := iw.up iv' sz'
  refine lv_aload_n hx hb dL_law_1416 rfl (lv_at hl 1 rfl) ?_
  refine cVp (av := []) (rest := []) (st1 := [.int v]) (k1 := k1 + 0) (k2 := k2 + 0) (wn := LWd x a o cy F D P SL SV T WY' md g) (ci := 3) (q0 := 0) hx hb hml hown htg hN hK (c_X8_cuttings l dC dI cy x F WY (v, WY') e1) (g_V gw385 gw386 gw387 gw59 gw388) hdV_X8_cuttings rfl ⟨⟨Nat.le_of_ble_eq_true rfl, Nat.le_of_ble_eq_true rfl⟩, (show k1 + 0 ≤ 601024 by omega), (show k2 + 0 ≤ 7293034 by omega)⟩ hP hD hS hA ⟨rfl, rfl⟩ rfl (pm_sfia _ _ _ _ _ _ _ _ _ _ _) (pn_sfia _ _ _ _ _ _ _ _ _ _ _) hl.1 rfl (Nat.le_of_ble_eq_true rfl) rfl rfl rfl dL_law_1417 (fun H locs hP hD hS => ?_)
  refine lv_aload_n hx hb dL_law_1420 rfl (lv_at hl 2 rfl) ?_
  refine cVp (av := []) (rest := [.int v]) (st1 := [.int v, .int v]) (k1 := k1 + 0) (k2 := k2 + 0) (wn := LWd x a o cy F D P SL SV T WY' m' g) (ci := 4) (q0 := 0) hx hb hml hown htg hN hK (c_X9_cuttings l dC dI cy a md (v, m') e2) (g_V gw1219 gw1220 gw1221 gw63 gw1222) hdV_X9_cuttings rfl ⟨⟨Nat.le_of_ble_eq_true rfl, Nat.le_of_ble_eq_true rfl⟩, (show k1 + 0 ≤ 601024 by omega), (show k2 + 0 ≤ 7293034 by omega)⟩ hP hD hS hA ⟨rfl, rfl⟩ rfl (pm_mo _ _ _ _ _ _ _ _ _ _ _) (pn_mo _ _ _ _ _ _ _ _ _ _ _) hl.1 rfl (Nat.le_of_ble_eq_true rfl) rfl rfl rfl dL_law_1421 (fun H locs hP hD hS => ?_)
  refine lv_icmp_eq (tgt := 1741) hx hb dL_law_1424 (by decide) (fun _ => ?_) (fun z => absurd rfl z)
  refine W.widen (k := k1 + 4) (n := k2 + 24) (by omega) (by omega) ?_
  exact K _ _ _ _ _ _ _ _ _ H locs ls iw' hP hD hS hl
set_option maxHeartbeats 4000000 in
set_option maxRecDepth 100000 in
theorem law_runScript {p : Program} {l : Launch} {e : Env} {s : State} {m : MethodId} {below : List Frame} {meth : Method} {c : Code} {dC : Nat → ClassId} {dI : Nat → Nat → Nat} {cy : Nat → ClassId} {b L : Nat} {xs : Nat → Int32} (hL : L ≤ 2560) (C0 : lw_At p s m meth c b L xs) (hlt : l.stackTraces = false) (hN : NW s) (hC : NC s) (hE : EX (fun q : Nat => s.heap.size ≤ q) s s.heap) (hK : va_K (dC, dI) vwCl (TY cy) s) {i : Nat} (hi : i + 5 ≤ L)
    {x a : Nat → Nat} {o : Nat} {F D : Fig} {P : PastS} {SL : Nat → Fig} {SV : Nat → Int32} {T : TextS} {WY : Nat → Int32} {md : Mod} {g : Nat → Int64} (iw : IW F P SL SV T md) {H : Heap} {locs : List Loc} {k1 k2 : Nat} (hr1 : k1 + 4 ≤ 601024) (hr2 : k2 + 24 ≤ 7293034)
    (hP : va_P (dC, dI) vwCl (LWd x a o cy F D P SL SV T WY md g) H) (hD : va_D (fun q : Nat => s.heap.size ≤ q) (LWd x a o cy F D P SL SV T WY md g)) (hS : va_S (fun q : Nat => s.heap.size ≤ q) s.heap H locs) {ls : Array Slot} (hl : lv_has ls 7 [(0, .ref b), (1, .ref (x 0)), (2, .ref (a 0)), (3, .ref o), (4, .int (nI i))]) {Q : State → Prop}
    (K : LK p l e s m below meth c (dC, dI) cy b i x a o k1 k2 Q) : W p l e room_1 s m #[Value.ref b] below meth c H locs k1 k2 Q (F0 m 1429 ls []) := by
  obtain ⟨hx, hb, hr, hml, hown, hts, hX, hbl, hlocks, hgv⟩ := C0
  have htg : ∀ w ∈ GW, w.before #[Value.ref b] s = true := fun w hw => hts w (List.mem_filter.mp hw).1
  have hA : ∀ q : Nat, s.heap.size ≤ q → (fun q : Nat => s.heap.size ≤ q) q := fun _ h => h
  have hbA : ¬ (fun q : Nat => s.heap.size ≤ q) b := Nat.not_le.mpr hbl
  obtain ⟨hv1, hv2, hv3, hv4⟩ := lw_in5 hL hi
  obtain ⟨a1, D', v, m', e1, e2, iv', sz', an⟩ := o_runScript iw.1 D (xs (nI i + 1).toNatClampNeg) (((xs (nI i + 2).toNatClampNeg).toInt64 <<< ((32 : Int32).toInt64 &&& 63)) ||| ((xs (nI i + 3).toNatClampNeg).toInt64 &&& 4294967295))
  have iw' := iw.up iv' sz'
  refine lv_aload_n hx hb dL_law_1429 rfl (lv_at hl 1 rfl) ?_
  refine lv_aload_n hx hb dL_law_1430 rfl (lv_at hl 0 rfl) ?_
  refine lv_iload hx hb dL_law_1431 (lv_at hl 4 rfl) ?_
  refine lv_iconst (v := 1) hx hb dL_law_1433 (by decide) ?_
  refine lv_iadd hx hb dL_law_1434 ?_
  refine va_sld hx hb hX hbl hbA hS hv1 dL_law_1435 ?_
  refine lv_aload_n hx hb dL_law_1436 rfl (lv_at hl 0 rfl) ?_
  refine lv_iload hx hb dL_law_1437 (lv_at hl 4 rfl) ?_
  refine lv_iconst (v := 2) hx hb dL_law_1439 (by decide) ?_
  refine lv_iadd hx hb dL_law_1440 ?_
  refine va_sld hx hb hX hbl hbA hS hv2 dL_law_1441 ?_
  refine lv_i2l (v := _) hx hb dL_law_1442 rfl ?_
  refine lv_bipush (v := 32) hx hb dL_law_1443 (by decide) ?_
  refine lv_lshl (v := _) hx hb dL_law_1445 rfl ?_
  refine lv_aload_n hx hb dL_law_1446 rfl (lv_at hl 0 rfl) ?_
  refine lv_iload hx hb dL_law_1447 (lv_at hl 4 rfl) ?_
  refine lv_iconst (v := 3) hx hb dL_law_1449 (by decide) ?_
  refine lv_iadd hx hb dL_law_1450 ?_
  refine va_sld hx hb hX hbl hbA hS hv3 dL_law_1451 ?_
  refine lv_i2l (v := _) hx hb dL_law_1452 rfl ?_
  refine lv_ldc2 hx hb hown (htg _ gw1256) dL_law_1453 ?_
  refine lv_land hx hb dL_law_1456 ?_
  refine lv_lor hx hb dL_law_1457 ?_
  refine lv_aload_n hx hb dL_law_1458 rfl (lv_at hl 3 rfl) ?_
  have hk : ∀ k, a1 = .inl k → k = 2 := fun k hq => A1.k an hq
  refine cLW (av := [.ref (x 0), .int (xs (nI i + 1).toNatClampNeg), .long (((xs (nI i + 2).toNatClampNeg).toInt64 <<< ((32 : Int32).toInt64 &&& 63)) ||| ((xs (nI i + 3).toNatClampNeg).toInt64 &&& 4294967295)), .ref o]) (rest := []) (st1 := [.int (lk 2 a1)]) (ret := some (.int (lk 2 a1))) (wn := LWd x a o cy F D' P SL SV T WY md (lo g a1)) hx hb hml hown htg hN hK hE hC (c_L_runScript l dC dI cy hlt x F D (xs (nI i + 1).toNatClampNeg) (((xs (nI i + 2).toNatClampNeg).toInt64 <<< ((32 : Int32).toInt64 &&& 63)) ||| ((xs (nI i + 3).toNatClampNeg).toInt64 &&& 4294967295)) (a1, D') e1 o g hk) ⟨gw780, gw781, gw58, cw_runScript⟩ hdL_runScript rfl ⟨⟨Nat.le_of_ble_eq_true rfl, Nat.le_of_ble_eq_true rfl⟩, (show k1 + 1 ≤ 601024 by omega), (show k2 + 6 ≤ 7293034 by omega)⟩ hP hD hS hA (pm_sfdL _ _ _ _ _ _ _ _ _ _ _) (pn_sfdL _ _ _ _ _ _ _ _ _ _ _) hl.1 rfl (Nat.le_of_ble_eq_true rfl) rfl dL_law_1459 (fun H locs hP hD hS => ?_)
  refine W.eq (g2 := F0 m 1462 ls [.int (lk 2 a1)]) rfl ?_
  refine lv_istore (lv' := [(5, .int (lk 2 a1)), (0, .ref b), (1, .ref (x 0)), (2, .ref (a 0)), (3, .ref o), (4, .int (nI i))]) hx hb dL_law_1462 hl (by decide) rfl (fun ls hl => ?_)
  refine lv_aload_n hx hb dL_law_1464 rfl (lv_at hl 3 rfl) ?_
  refine lv_aload_n hx hb dL_law_1465 rfl (lv_at hl 1 rfl) ?_
  refine lv_iload hx hb dL_law_1466 (lv_at hl 5 rfl) ?_
  refine lv_iconst (v := 1) hx hb dL_law_1468 (by decide) ?_
  refine lv_iadd hx hb dL_law_1469 ?_
  refine va_sld hx hb hX hbl hbA hS hv1 dL_law_1470 ?_
  refine lv_aload_n hx hb dL_law_1471 rfl (lv_at hl 1 rfl) ?_
  refine lv_iload hx hb dL_law_1472 (lv_at hl 5 rfl) ?_
  refine lv_iconst (v := 2) hx hb dL_law_1474 (by decide) ?_
  refine lv_iadd hx hb dL_law_1475 ?_
  refine va_sld hx hb hX hbl hbA hS hv2 dL_law_1476 ?_
  refine lv_i2l (v := _) hx hb dL_law_1477 rfl ?_
  refine lv_bipush (v := 32) hx hb dL_law_1478 (by decide) ?_
  refine lv_lshl (v := _) hx hb dL_law_1480 rfl ?_
  refine lv_aload_n hx hb dL_law_1481 rfl (lv_at hl 1 rfl) ?_
  refine lv_iload hx hb dL_law_1482 (lv_at hl 5 rfl) ?_
  refine lv_iconst (v := 3) hx hb dL_law_1484 (by decide) ?_
  refine lv_iadd hx hb dL_law_1485 ?_
  refine va_sld hx hb hX hbl hbA hS hv3 dL_law_1486 ?_
  refine lv_i2l (v := _) hx hb dL_law_1487 rfl ?_
  refine lv_ldc2 hx hb hown (htg _ gw1256) dL_law_1488 ?_
  refine lv_land hx hb dL_law_1491 ?_
  refine lv_lor hx hb dL_law_1492 ?_
  refine cVp (av := [.int (xs (nI i + 1).toNatClampNeg), .long (((xs (nI i + 2).toNatClampNeg).toInt64 <<< ((32 : Int32).toInt64 &&& 63)) ||| ((xs (nI i + 3).toNatClampNeg).toInt64 &&& 4294967295))]) (rest := []) (st1 := [.int v]) (k1 := k1 + 1) (k2 := k2 + 6) (wn := LWd x a o cy F D' P SL SV T WY m' (lo g a1)) (ci := 4) (q0 := 0) hx hb hml hown htg hN hK (c_X9_runScript l dC dI cy a md (xs (nI i + 1).toNatClampNeg) (((xs (nI i + 2).toNatClampNeg).toInt64 <<< ((32 : Int32).toInt64 &&& 63)) ||| ((xs (nI i + 3).toNatClampNeg).toInt64 &&& 4294967295)) (v, m') e2) (g_V gw1223 gw1224 gw1225 gw63 gw1226) hdV_X9_runScript rfl ⟨⟨Nat.le_of_ble_eq_true rfl, Nat.le_of_ble_eq_true rfl⟩, (show k1 + 1 ≤ 601024 by omega), (show k2 + 6 ≤ 7293034 by omega)⟩ hP hD hS hA ⟨rfl, rfl⟩ rfl (pm_mo _ _ _ _ _ _ _ _ _ _ _) (pn_mo _ _ _ _ _ _ _ _ _ _ _) hl.1 rfl (Nat.le_of_ble_eq_true rfl) rfl rfl rfl dL_law_1493 (fun H locs hP hD hS => ?_)
  refine lv_istore (lv' := [(6, .int v), (5, .int (lk 2 a1)), (0, .ref b), (1, .ref (x 0)), (2, .ref (a 0)), (3, .ref o), (4, .int (nI i))]) hx hb dL_law_1496 hl (by decide) rfl (fun ls hl => ?_)
  refine lv_aload_n hx hb dL_law_1498 rfl (lv_at hl 4 rfl) ?_
  refine cVp (av := []) (rest := []) (st1 := [.int (m_thrown m')]) (k1 := k1 + 1) (k2 := k2 + 6) (wn := LWd x a o cy F D' P SL SV T WY m' (lo g a1)) (ci := 4) (q0 := 0) hx hb hml hown htg hN hK (c_X9_thrown l dC dI cy a m' (m_thrown m') rfl) (g_V gw905 gw906 gw907 gw63 gw908) hdV_X9_thrown rfl ⟨⟨Nat.le_of_ble_eq_true rfl, Nat.le_of_ble_eq_true rfl⟩, (show k1 + 1 ≤ 601024 by omega), (show k2 + 6 ≤ 7293034 by omega)⟩ hP hD hS hA ⟨rfl, rfl⟩ rfl (pm_mo _ _ _ _ _ _ _ _ _ _ _) (pn_mo _ _ _ _ _ _ _ _ _ _ _) hl.1 rfl (Nat.le_of_ble_eq_true rfl) rfl rfl rfl dL_law_1499 (fun H locs hP hD hS => ?_)
  refine lv_iload hx hb dL_law_1502 (lv_at hl 1 rfl) ?_
  refine lv_icmp_eq (tgt := 1509) hx hb dL_law_1504 (by decide) (fun _ => ?_) (fun z => absurd (A1.t an) z)
  refine lv_iload hx hb dL_law_1509 (lv_at hl 1 rfl) ?_
  have fin : W p l e room_1 s m #[Value.ref b] below meth c H locs (k1 + 1) (k2 + 6) Q (F0 m 1526 ls []) := by
    refine lv_goto (tgt := 1741) hx hb dL_law_1526 (by decide) ?_
    refine W.widen (k := k1 + 4) (n := k2 + 24) (by omega) (by omega) ?_
    exact K _ _ _ _ _ _ _ _ _ H locs ls iw' hP hD hS (lv_sub hl [2, 3, 4, 5, 6] rfl)
  refine lv_if_ne (tgt := 1526) hx hb dL_law_1511 (by decide) (fun _ => fin) (fun z0 => ?_)
  refine lv_aload_n hx hb dL_law_1514 rfl (lv_at hl 5 rfl) ?_
  refine lv_iconst (v := 0) hx hb dL_law_1515 (by decide) ?_
  refine va_lald hx hb hK hP 0 4 rfl rfl vp01 dL_law_1516 ?_
  refine lv_iload hx hb dL_law_1517 (lv_at hl 0 rfl) ?_
  refine lv_i2l (v := v.toInt64) hx hb dL_law_1519 rfl ?_
  refine W.lcmp hx hb dL_law_1520 ?_
  refine lv_if_eq (tgt := 1526) hx hb dL_law_1521 (by decide) (fun _ => fin) (fun z => absurd ((lg_cmp_eq _ _).mpr (A1.lo an z0)) z)
set_option maxHeartbeats 4000000 in
set_option maxRecDepth 100000 in
theorem law_simulate {p : Program} {l : Launch} {e : Env} {s : State} {m : MethodId} {below : List Frame} {meth : Method} {c : Code} {dC : Nat → ClassId} {dI : Nat → Nat → Nat} {cy : Nat → ClassId} {b L : Nat} {xs : Nat → Int32} (hL : L ≤ 2560) (C0 : lw_At p s m meth c b L xs) (hlt : l.stackTraces = false) (hN : NW s) (hC : NC s) (hE : EX (fun q : Nat => s.heap.size ≤ q) s s.heap) (hK : va_K (dC, dI) vwCl (TY cy) s) {i : Nat} (hi : i + 5 ≤ L)
    {x a : Nat → Nat} {o : Nat} {F D : Fig} {P : PastS} {SL : Nat → Fig} {SV : Nat → Int32} {T : TextS} {WY : Nat → Int32} {md : Mod} {g : Nat → Int64} (iw : IW F P SL SV T md) {H : Heap} {locs : List Loc} {k1 k2 : Nat} (hr1 : k1 + 4 ≤ 601024) (hr2 : k2 + 24 ≤ 7293034)
    (hP : va_P (dC, dI) vwCl (LWd x a o cy F D P SL SV T WY md g) H) (hD : va_D (fun q : Nat => s.heap.size ≤ q) (LWd x a o cy F D P SL SV T WY md g)) (hS : va_S (fun q : Nat => s.heap.size ≤ q) s.heap H locs) {ls : Array Slot} (hl : lv_has ls 7 [(0, .ref b), (1, .ref (x 0)), (2, .ref (a 0)), (3, .ref o), (4, .int (nI i))]) {Q : State → Prop}
    (K : LK p l e s m below meth c (dC, dI) cy b i x a o k1 k2 Q) : W p l e room_1 s m #[Value.ref b] below meth c H locs k1 k2 Q (F0 m 1529 ls []) := by
  obtain ⟨hx, hb, hr, hml, hown, hts, hX, hbl, hlocks, hgv⟩ := C0
  have htg : ∀ w ∈ GW, w.before #[Value.ref b] s = true := fun w hw => hts w (List.mem_filter.mp hw).1
  have hA : ∀ q : Nat, s.heap.size ≤ q → (fun q : Nat => s.heap.size ≤ q) q := fun _ h => h
  have hbA : ¬ (fun q : Nat => s.heap.size ≤ q) b := Nat.not_le.mpr hbl
  obtain ⟨hv1, hv2, hv3, hv4⟩ := lw_in5 hL hi
  obtain ⟨a1, D', v, m', e1, e2, iv', sz', an⟩ := o_simulate iw.1 D (((xs (nI i + 1).toNatClampNeg).toInt64 <<< ((32 : Int32).toInt64 &&& 63)) ||| ((xs (nI i + 2).toNatClampNeg).toInt64 &&& 4294967295)) (xs (nI i + 3).toNatClampNeg)
  have iw' := iw.up iv' sz'
  refine lv_aload_n hx hb dL_law_1529 rfl (lv_at hl 1 rfl) ?_
  refine lv_aload_n hx hb dL_law_1530 rfl (lv_at hl 0 rfl) ?_
  refine lv_iload hx hb dL_law_1531 (lv_at hl 4 rfl) ?_
  refine lv_iconst (v := 1) hx hb dL_law_1533 (by decide) ?_
  refine lv_iadd hx hb dL_law_1534 ?_
  refine va_sld hx hb hX hbl hbA hS hv1 dL_law_1535 ?_
  refine lv_i2l (v := _) hx hb dL_law_1536 rfl ?_
  refine lv_bipush (v := 32) hx hb dL_law_1537 (by decide) ?_
  refine lv_lshl (v := _) hx hb dL_law_1539 rfl ?_
  refine lv_aload_n hx hb dL_law_1540 rfl (lv_at hl 0 rfl) ?_
  refine lv_iload hx hb dL_law_1541 (lv_at hl 4 rfl) ?_
  refine lv_iconst (v := 2) hx hb dL_law_1543 (by decide) ?_
  refine lv_iadd hx hb dL_law_1544 ?_
  refine va_sld hx hb hX hbl hbA hS hv2 dL_law_1545 ?_
  refine lv_i2l (v := _) hx hb dL_law_1546 rfl ?_
  refine lv_ldc2 hx hb hown (htg _ gw1256) dL_law_1547 ?_
  refine lv_land hx hb dL_law_1550 ?_
  refine lv_lor hx hb dL_law_1551 ?_
  refine lv_aload_n hx hb dL_law_1552 rfl (lv_at hl 0 rfl) ?_
  refine lv_iload hx hb dL_law_1553 (lv_at hl 4 rfl) ?_
  refine lv_iconst (v := 3) hx hb dL_law_1555 (by decide) ?_
  refine lv_iadd hx hb dL_law_1556 ?_
  refine va_sld hx hb hX hbl hbA hS hv3 dL_law_1557 ?_
  refine lv_aload_n hx hb dL_law_1558 rfl (lv_at hl 3 rfl) ?_
  have hk : ∀ k, a1 = .inl k → k = 2 := fun k hq => A1.k an hq
  refine cLW (av := [.ref (x 0), .long (((xs (nI i + 1).toNatClampNeg).toInt64 <<< ((32 : Int32).toInt64 &&& 63)) ||| ((xs (nI i + 2).toNatClampNeg).toInt64 &&& 4294967295)), .int (xs (nI i + 3).toNatClampNeg), .ref o]) (rest := []) (st1 := [.int (lk 2 a1)]) (ret := some (.int (lk 2 a1))) (wn := LWd x a o cy F D' P SL SV T WY md (lo g a1)) hx hb hml hown htg hN hK hE hC (c_L_simulate l dC dI cy hlt x F D (((xs (nI i + 1).toNatClampNeg).toInt64 <<< ((32 : Int32).toInt64 &&& 63)) ||| ((xs (nI i + 2).toNatClampNeg).toInt64 &&& 4294967295)) (xs (nI i + 3).toNatClampNeg) (a1, D') e1 o g hk) ⟨gw811, gw812, gw58, cw_simulate⟩ hdL_simulate rfl ⟨⟨Nat.le_of_ble_eq_true rfl, Nat.le_of_ble_eq_true rfl⟩, (show k1 + 1 ≤ 601024 by omega), (show k2 + 6 ≤ 7293034 by omega)⟩ hP hD hS hA (pm_sfdL _ _ _ _ _ _ _ _ _ _ _) (pn_sfdL _ _ _ _ _ _ _ _ _ _ _) hl.1 rfl (Nat.le_of_ble_eq_true rfl) rfl dL_law_1559 (fun H locs hP hD hS => ?_)
  refine W.eq (g2 := F0 m 1562 ls [.int (lk 2 a1)]) rfl ?_
  refine lv_istore (lv' := [(5, .int (lk 2 a1)), (0, .ref b), (1, .ref (x 0)), (2, .ref (a 0)), (3, .ref o), (4, .int (nI i))]) hx hb dL_law_1562 hl (by decide) rfl (fun ls hl => ?_)
  refine lv_aload_n hx hb dL_law_1564 rfl (lv_at hl 3 rfl) ?_
  refine lv_aload_n hx hb dL_law_1565 rfl (lv_at hl 1 rfl) ?_
  refine lv_iload hx hb dL_law_1566 (lv_at hl 5 rfl) ?_
  refine lv_iconst (v := 1) hx hb dL_law_1568 (by decide) ?_
  refine lv_iadd hx hb dL_law_1569 ?_
  refine va_sld hx hb hX hbl hbA hS hv1 dL_law_1570 ?_
  refine lv_i2l (v := _) hx hb dL_law_1571 rfl ?_
  refine lv_bipush (v := 32) hx hb dL_law_1572 (by decide) ?_
  refine lv_lshl (v := _) hx hb dL_law_1574 rfl ?_
  refine lv_aload_n hx hb dL_law_1575 rfl (lv_at hl 1 rfl) ?_
  refine lv_iload hx hb dL_law_1576 (lv_at hl 5 rfl) ?_
  refine lv_iconst (v := 2) hx hb dL_law_1578 (by decide) ?_
  refine lv_iadd hx hb dL_law_1579 ?_
  refine va_sld hx hb hX hbl hbA hS hv2 dL_law_1580 ?_
  refine lv_i2l (v := _) hx hb dL_law_1581 rfl ?_
  refine lv_ldc2 hx hb hown (htg _ gw1256) dL_law_1582 ?_
  refine lv_land hx hb dL_law_1585 ?_
  refine lv_lor hx hb dL_law_1586 ?_
  refine lv_aload_n hx hb dL_law_1587 rfl (lv_at hl 1 rfl) ?_
  refine lv_iload hx hb dL_law_1588 (lv_at hl 5 rfl) ?_
  refine lv_iconst (v := 3) hx hb dL_law_1590 (by decide) ?_
  refine lv_iadd hx hb dL_law_1591 ?_
  refine va_sld hx hb hX hbl hbA hS hv3 dL_law_1592 ?_
  refine cVp (av := [.long (((xs (nI i + 1).toNatClampNeg).toInt64 <<< ((32 : Int32).toInt64 &&& 63)) ||| ((xs (nI i + 2).toNatClampNeg).toInt64 &&& 4294967295)), .int (xs (nI i + 3).toNatClampNeg)]) (rest := []) (st1 := [.int v]) (k1 := k1 + 1) (k2 := k2 + 6) (wn := LWd x a o cy F D' P SL SV T WY m' (lo g a1)) (ci := 4) (q0 := 0) hx hb hml hown htg hN hK (c_X9_simulate l dC dI cy a md (((xs (nI i + 1).toNatClampNeg).toInt64 <<< ((32 : Int32).toInt64 &&& 63)) ||| ((xs (nI i + 2).toNatClampNeg).toInt64 &&& 4294967295)) (xs (nI i + 3).toNatClampNeg) (v, m') e2) (g_V gw1239 gw1240 gw1241 gw63 gw1242) hdV_X9_simulate rfl ⟨⟨Nat.le_of_ble_eq_true rfl, Nat.le_of_ble_eq_true rfl⟩, (show k1 + 1 ≤ 601024 by omega), (show k2 + 6 ≤ 7293034 by omega)⟩ hP hD hS hA ⟨rfl, rfl⟩ rfl (pm_mo _ _ _ _ _ _ _ _ _ _ _) (pn_mo _ _ _ _ _ _ _ _ _ _ _) hl.1 rfl (Nat.le_of_ble_eq_true rfl) rfl rfl rfl dL_law_1593 (fun H locs hP hD hS => ?_)
  refine lv_istore (lv' := [(6, .int v), (5, .int (lk 2 a1)), (0, .ref b), (1, .ref (x 0)), (2, .ref (a 0)), (3, .ref o), (4, .int (nI i))]) hx hb dL_law_1596 hl (by decide) rfl (fun ls hl => ?_)
  refine lv_aload_n hx hb dL_law_1598 rfl (lv_at hl 4 rfl) ?_
  refine cVp (av := []) (rest := []) (st1 := [.int (m_thrown m')]) (k1 := k1 + 1) (k2 := k2 + 6) (wn := LWd x a o cy F D' P SL SV T WY m' (lo g a1)) (ci := 4) (q0 := 0) hx hb hml hown htg hN hK (c_X9_thrown l dC dI cy a m' (m_thrown m') rfl) (g_V gw905 gw906 gw907 gw63 gw908) hdV_X9_thrown rfl ⟨⟨Nat.le_of_ble_eq_true rfl, Nat.le_of_ble_eq_true rfl⟩, (show k1 + 1 ≤ 601024 by omega), (show k2 + 6 ≤ 7293034 by omega)⟩ hP hD hS hA ⟨rfl, rfl⟩ rfl (pm_mo _ _ _ _ _ _ _ _ _ _ _) (pn_mo _ _ _ _ _ _ _ _ _ _ _) hl.1 rfl (Nat.le_of_ble_eq_true rfl) rfl rfl rfl dL_law_1599 (fun H locs hP hD hS => ?_)
  refine lv_iload hx hb dL_law_1602 (lv_at hl 1 rfl) ?_
  refine lv_icmp_eq (tgt := 1609) hx hb dL_law_1604 (by decide) (fun _ => ?_) (fun z => absurd (A1.t an) z)
  refine lv_iload hx hb dL_law_1609 (lv_at hl 1 rfl) ?_
  have fin : W p l e room_1 s m #[Value.ref b] below meth c H locs (k1 + 1) (k2 + 6) Q (F0 m 1626 ls []) := by
    refine lv_goto (tgt := 1741) hx hb dL_law_1626 (by decide) ?_
    refine W.widen (k := k1 + 4) (n := k2 + 24) (by omega) (by omega) ?_
    exact K _ _ _ _ _ _ _ _ _ H locs ls iw' hP hD hS (lv_sub hl [2, 3, 4, 5, 6] rfl)
  refine lv_if_ne (tgt := 1626) hx hb dL_law_1611 (by decide) (fun _ => fin) (fun z0 => ?_)
  refine lv_aload_n hx hb dL_law_1614 rfl (lv_at hl 5 rfl) ?_
  refine lv_iconst (v := 0) hx hb dL_law_1615 (by decide) ?_
  refine va_lald hx hb hK hP 0 4 rfl rfl vp01 dL_law_1616 ?_
  refine lv_iload hx hb dL_law_1617 (lv_at hl 0 rfl) ?_
  refine lv_i2l (v := v.toInt64) hx hb dL_law_1619 rfl ?_
  refine W.lcmp hx hb dL_law_1620 ?_
  refine lv_if_eq (tgt := 1626) hx hb dL_law_1621 (by decide) (fun _ => fin) (fun z => absurd ((lg_cmp_eq _ _).mpr (A1.lo an z0)) z)
set_option maxHeartbeats 4000000 in
set_option maxRecDepth 100000 in
theorem law_save {p : Program} {l : Launch} {e : Env} {s : State} {m : MethodId} {below : List Frame} {meth : Method} {c : Code} {dC : Nat → ClassId} {dI : Nat → Nat → Nat} {cy : Nat → ClassId} {b L : Nat} {xs : Nat → Int32} (hL : L ≤ 2560) (C0 : lw_At p s m meth c b L xs) (hlt : l.stackTraces = false) (hN : NW s) (hC : NC s) (hE : EX (fun q : Nat => s.heap.size ≤ q) s s.heap) (hK : va_K (dC, dI) vwCl (TY cy) s) {i : Nat} (hi : i + 5 ≤ L)
    {x a : Nat → Nat} {o : Nat} {F D : Fig} {P : PastS} {SL : Nat → Fig} {SV : Nat → Int32} {T : TextS} {WY : Nat → Int32} {md : Mod} {g : Nat → Int64} (iw : IW F P SL SV T md) {H : Heap} {locs : List Loc} {k1 k2 : Nat} (hr1 : k1 + 4 ≤ 601024) (hr2 : k2 + 24 ≤ 7293034)
    (hP : va_P (dC, dI) vwCl (LWd x a o cy F D P SL SV T WY md g) H) (hD : va_D (fun q : Nat => s.heap.size ≤ q) (LWd x a o cy F D P SL SV T WY md g)) (hS : va_S (fun q : Nat => s.heap.size ≤ q) s.heap H locs) {ls : Array Slot} (hl : lv_has ls 7 [(0, .ref b), (1, .ref (x 0)), (2, .ref (a 0)), (3, .ref o), (4, .int (nI i))]) {Q : State → Prop}
    (K : LK p l e s m below meth c (dC, dI) cy b i x a o k1 k2 Q) : W p l e room_1 s m #[Value.ref b] below meth c H locs k1 k2 Q (F0 m 1629 ls []) := by
  obtain ⟨hx, hb, hr, hml, hown, hts, hX, hbl, hlocks, hgv⟩ := C0
  have htg : ∀ w ∈ GW, w.before #[Value.ref b] s = true := fun w hw => hts w (List.mem_filter.mp hw).1
  have hA : ∀ q : Nat, s.heap.size ≤ q → (fun q : Nat => s.heap.size ≤ q) q := fun _ h => h
  have hbA : ¬ (fun q : Nat => s.heap.size ≤ q) b := Nat.not_le.mpr hbl
  obtain ⟨hv1, hv2, hv3, hv4⟩ := lw_in5 hL hi
  obtain ⟨a1, SL', SV', v, m', e1, e2, iw', an⟩ := o_save iw (xs (nI i + 1).toNatClampNeg)
  refine lv_aload_n hx hb dL_law_1629 rfl (lv_at hl 1 rfl) ?_
  refine lv_aload_n hx hb dL_law_1630 rfl (lv_at hl 0 rfl) ?_
  refine lv_iload hx hb dL_law_1631 (lv_at hl 4 rfl) ?_
  refine lv_iconst (v := 1) hx hb dL_law_1633 (by decide) ?_
  refine lv_iadd hx hb dL_law_1634 ?_
  refine va_sld hx hb hX hbl hbA hS hv1 dL_law_1635 ?_
  refine lv_aload_n hx hb dL_law_1636 rfl (lv_at hl 3 rfl) ?_
  have hk : ∀ k, a1 = .inl k → k = 1 := fun k hq => A1.k an hq
  refine cLW (av := [.ref (x 0), .int (xs (nI i + 1).toNatClampNeg), .ref o]) (rest := []) (st1 := [.int (lk 1 a1)]) (ret := some (.int (lk 1 a1))) (wn := LWd x a o cy F D P SL' SV' T WY md (lo g a1)) hx hb hml hown htg hN hK hE hC (c_L_save l dC dI cy hlt x F SL SV (xs (nI i + 1).toNatClampNeg) (a1, SL', SV') e1 o g hk) ⟨gw821, gw822, gw58, cw_save⟩ hdL_save rfl ⟨⟨Nat.le_of_ble_eq_true rfl, Nat.le_of_ble_eq_true rfl⟩, (show k1 + 1 ≤ 601024 by omega), (show k2 + 6 ≤ 7293034 by omega)⟩ hP hD hS hA (pm_sfslbaL _ _ _ _ _ _ _ _ _ _ _) (pn_sfslbaL _ _ _ _ _ _ _ _ _ _ _) hl.1 rfl (Nat.le_of_ble_eq_true rfl) rfl dL_law_1637 (fun H locs hP hD hS => ?_)
  refine W.eq (g2 := F0 m 1640 ls [.int (lk 1 a1)]) rfl ?_
  refine lv_istore (lv' := [(5, .int (lk 1 a1)), (0, .ref b), (1, .ref (x 0)), (2, .ref (a 0)), (3, .ref o), (4, .int (nI i))]) hx hb dL_law_1640 hl (by decide) rfl (fun ls hl => ?_)
  refine lv_aload_n hx hb dL_law_1642 rfl (lv_at hl 3 rfl) ?_
  refine lv_aload_n hx hb dL_law_1643 rfl (lv_at hl 1 rfl) ?_
  refine lv_iload hx hb dL_law_1644 (lv_at hl 5 rfl) ?_
  refine lv_iconst (v := 1) hx hb dL_law_1646 (by decide) ?_
  refine lv_iadd hx hb dL_law_1647 ?_
  refine va_sld hx hb hX hbl hbA hS hv1 dL_law_1648 ?_
  refine cVp (av := [.int (xs (nI i + 1).toNatClampNeg)]) (rest := []) (st1 := [.int v]) (k1 := k1 + 1) (k2 := k2 + 6) (wn := LWd x a o cy F D P SL' SV' T WY m' (lo g a1)) (ci := 4) (q0 := 0) hx hb hml hown htg hN hK (c_X9_save l dC dI cy a md (xs (nI i + 1).toNatClampNeg) (v, m') e2) (g_V gw1245 gw1246 gw1247 gw63 gw1248) hdV_X9_save rfl ⟨⟨Nat.le_of_ble_eq_true rfl, Nat.le_of_ble_eq_true rfl⟩, (show k1 + 1 ≤ 601024 by omega), (show k2 + 6 ≤ 7293034 by omega)⟩ hP hD hS hA ⟨rfl, rfl⟩ rfl (pm_mo _ _ _ _ _ _ _ _ _ _ _) (pn_mo _ _ _ _ _ _ _ _ _ _ _) hl.1 rfl (Nat.le_of_ble_eq_true rfl) rfl rfl rfl dL_law_1649 (fun H locs hP hD hS => ?_)
  refine lv_istore (lv' := [(6, .int v), (5, .int (lk 1 a1)), (0, .ref b), (1, .ref (x 0)), (2, .ref (a 0)), (3, .ref o), (4, .int (nI i))]) hx hb dL_law_1652 hl (by decide) rfl (fun ls hl => ?_)
  refine lv_aload_n hx hb dL_law_1654 rfl (lv_at hl 4 rfl) ?_
  refine cVp (av := []) (rest := []) (st1 := [.int (m_thrown m')]) (k1 := k1 + 1) (k2 := k2 + 6) (wn := LWd x a o cy F D P SL' SV' T WY m' (lo g a1)) (ci := 4) (q0 := 0) hx hb hml hown htg hN hK (c_X9_thrown l dC dI cy a m' (m_thrown m') rfl) (g_V gw905 gw906 gw907 gw63 gw908) hdV_X9_thrown rfl ⟨⟨Nat.le_of_ble_eq_true rfl, Nat.le_of_ble_eq_true rfl⟩, (show k1 + 1 ≤ 601024 by omega), (show k2 + 6 ≤ 7293034 by omega)⟩ hP hD hS hA ⟨rfl, rfl⟩ rfl (pm_mo _ _ _ _ _ _ _ _ _ _ _) (pn_mo _ _ _ _ _ _ _ _ _ _ _) hl.1 rfl (Nat.le_of_ble_eq_true rfl) rfl rfl rfl dL_law_1655 (fun H locs hP hD hS => ?_)
  refine lv_iload hx hb dL_law_1658 (lv_at hl 1 rfl) ?_
  refine lv_icmp_eq (tgt := 1665) hx hb dL_law_1660 (by decide) (fun _ => ?_) (fun z => absurd (A1.t an) z)
  refine lv_iload hx hb dL_law_1665 (lv_at hl 1 rfl) ?_
  have fin : W p l e room_1 s m #[Value.ref b] below meth c H locs (k1 + 1) (k2 + 6) Q (F0 m 1682 ls []) := by
    refine lv_goto (tgt := 1741) hx hb dL_law_1682 (by decide) ?_
    refine W.widen (k := k1 + 4) (n := k2 + 24) (by omega) (by omega) ?_
    exact K _ _ _ _ _ _ _ _ _ H locs ls iw' hP hD hS (lv_sub hl [2, 3, 4, 5, 6] rfl)
  refine lv_if_ne (tgt := 1682) hx hb dL_law_1667 (by decide) (fun _ => fin) (fun z0 => ?_)
  refine lv_aload_n hx hb dL_law_1670 rfl (lv_at hl 5 rfl) ?_
  refine lv_iconst (v := 0) hx hb dL_law_1671 (by decide) ?_
  refine va_lald hx hb hK hP 0 4 rfl rfl vp01 dL_law_1672 ?_
  refine lv_iload hx hb dL_law_1673 (lv_at hl 0 rfl) ?_
  refine lv_i2l (v := v.toInt64) hx hb dL_law_1675 rfl ?_
  refine W.lcmp hx hb dL_law_1676 ?_
  refine lv_if_eq (tgt := 1682) hx hb dL_law_1677 (by decide) (fun _ => fin) (fun z => absurd ((lg_cmp_eq _ _).mpr (A1.lo an z0)) z)
set_option maxHeartbeats 4000000 in
set_option maxRecDepth 100000 in
theorem law_restore {p : Program} {l : Launch} {e : Env} {s : State} {m : MethodId} {below : List Frame} {meth : Method} {c : Code} {dC : Nat → ClassId} {dI : Nat → Nat → Nat} {cy : Nat → ClassId} {b L : Nat} {xs : Nat → Int32} (hL : L ≤ 2560) (C0 : lw_At p s m meth c b L xs) (hlt : l.stackTraces = false) (hN : NW s) (hC : NC s) (hE : EX (fun q : Nat => s.heap.size ≤ q) s s.heap) (hK : va_K (dC, dI) vwCl (TY cy) s) {i : Nat} (hi : i + 5 ≤ L)
    {x a : Nat → Nat} {o : Nat} {F D : Fig} {P : PastS} {SL : Nat → Fig} {SV : Nat → Int32} {T : TextS} {WY : Nat → Int32} {md : Mod} {g : Nat → Int64} (iw : IW F P SL SV T md) {H : Heap} {locs : List Loc} {k1 k2 : Nat} (hr1 : k1 + 4 ≤ 601024) (hr2 : k2 + 24 ≤ 7293034)
    (hP : va_P (dC, dI) vwCl (LWd x a o cy F D P SL SV T WY md g) H) (hD : va_D (fun q : Nat => s.heap.size ≤ q) (LWd x a o cy F D P SL SV T WY md g)) (hS : va_S (fun q : Nat => s.heap.size ≤ q) s.heap H locs) {ls : Array Slot} (hl : lv_has ls 7 [(0, .ref b), (1, .ref (x 0)), (2, .ref (a 0)), (3, .ref o), (4, .int (nI i))]) {Q : State → Prop}
    (K : LK p l e s m below meth c (dC, dI) cy b i x a o k1 k2 Q) : W p l e room_1 s m #[Value.ref b] below meth c H locs k1 k2 Q (F0 m 1685 ls []) := by
  obtain ⟨hx, hb, hr, hml, hown, hts, hX, hbl, hlocks, hgv⟩ := C0
  have htg : ∀ w ∈ GW, w.before #[Value.ref b] s = true := fun w hw => hts w (List.mem_filter.mp hw).1
  have hA : ∀ q : Nat, s.heap.size ≤ q → (fun q : Nat => s.heap.size ≤ q) q := fun _ h => h
  have hbA : ¬ (fun q : Nat => s.heap.size ≤ q) b := Nat.not_le.mpr hbl
  obtain ⟨hv1, hv2, hv3, hv4⟩ := lw_in5 hL hi
  obtain ⟨a1, F', P', v, m', e1, e2, iw', an⟩ := o_restore iw (xs (nI i + 1).toNatClampNeg)
  refine lv_aload_n hx hb dL_law_1685 rfl (lv_at hl 1 rfl) ?_
  refine lv_aload_n hx hb dL_law_1686 rfl (lv_at hl 0 rfl) ?_
  refine lv_iload hx hb dL_law_1687 (lv_at hl 4 rfl) ?_
  refine lv_iconst (v := 1) hx hb dL_law_1689 (by decide) ?_
  refine lv_iadd hx hb dL_law_1690 ?_
  refine va_sld hx hb hX hbl hbA hS hv1 dL_law_1691 ?_
  refine lv_aload_n hx hb dL_law_1692 rfl (lv_at hl 3 rfl) ?_
  have hk : ∀ k, a1 = .inl k → k = 1 ∨ k = 3 := fun k hq => AN.k an hq
  refine cLW (av := [.ref (x 0), .int (xs (nI i + 1).toNatClampNeg), .ref o]) (rest := []) (st1 := [.int (lk 1 a1)]) (ret := some (.int (lk 1 a1))) (wn := LWd x a o cy F' D P' SL SV T WY md (lo g a1)) hx hb hml hown htg hN hK hE hC (c_L_restore l dC dI cy hlt x F P SL SV (xs (nI i + 1).toNatClampNeg) (a1, F', P') e1 o g hk) ⟨gw832, gw833, gw58, cw_restore⟩ hdL_restore rfl ⟨⟨Nat.le_of_ble_eq_true rfl, Nat.le_of_ble_eq_true rfl⟩, (show k1 + 2 ≤ 601024 by omega), (show k2 + 12 ≤ 7293034 by omega)⟩ hP hD hS hA (pm_sfpslbaqL _ _ _ _ _ _ _ _ _ _ _) (pn_sfpslbaqL _ _ _ _ _ _ _ _ _ _ _) hl.1 rfl (Nat.le_of_ble_eq_true rfl) rfl dL_law_1693 (fun H locs hP hD hS => ?_)
  refine W.eq (g2 := F0 m 1696 ls [.int (lk 1 a1)]) rfl ?_
  refine lv_istore (lv' := [(5, .int (lk 1 a1)), (0, .ref b), (1, .ref (x 0)), (2, .ref (a 0)), (3, .ref o), (4, .int (nI i))]) hx hb dL_law_1696 hl (by decide) rfl (fun ls hl => ?_)
  refine lv_aload_n hx hb dL_law_1698 rfl (lv_at hl 3 rfl) ?_
  refine lv_aload_n hx hb dL_law_1699 rfl (lv_at hl 1 rfl) ?_
  refine lv_iload hx hb dL_law_1700 (lv_at hl 5 rfl) ?_
  refine lv_iconst (v := 1) hx hb dL_law_1702 (by decide) ?_
  refine lv_iadd hx hb dL_law_1703 ?_
  refine va_sld hx hb hX hbl hbA hS hv1 dL_law_1704 ?_
  refine cVp (av := [.int (xs (nI i + 1).toNatClampNeg)]) (rest := []) (st1 := [.int v]) (k1 := k1 + 2) (k2 := k2 + 12) (wn := LWd x a o cy F' D P' SL SV T WY m' (lo g a1)) (ci := 4) (q0 := 0) hx hb hml hown htg hN hK (c_X9_restore l dC dI cy a md (xs (nI i + 1).toNatClampNeg) (v, m') e2) (g_V gw1252 gw1253 gw1254 gw63 gw1255) hdV_X9_restore rfl ⟨⟨Nat.le_of_ble_eq_true rfl, Nat.le_of_ble_eq_true rfl⟩, (show k1 + 2 ≤ 601024 by omega), (show k2 + 12 ≤ 7293034 by omega)⟩ hP hD hS hA ⟨rfl, rfl⟩ rfl (pm_mo _ _ _ _ _ _ _ _ _ _ _) (pn_mo _ _ _ _ _ _ _ _ _ _ _) hl.1 rfl (Nat.le_of_ble_eq_true rfl) rfl rfl rfl dL_law_1705 (fun H locs hP hD hS => ?_)
  refine lv_istore (lv' := [(6, .int v), (5, .int (lk 1 a1)), (0, .ref b), (1, .ref (x 0)), (2, .ref (a 0)), (3, .ref o), (4, .int (nI i))]) hx hb dL_law_1708 hl (by decide) rfl (fun ls hl => ?_)
  refine lv_aload_n hx hb dL_law_1710 rfl (lv_at hl 4 rfl) ?_
  refine cVp (av := []) (rest := []) (st1 := [.int (m_thrown m')]) (k1 := k1 + 2) (k2 := k2 + 12) (wn := LWd x a o cy F' D P' SL SV T WY m' (lo g a1)) (ci := 4) (q0 := 0) hx hb hml hown htg hN hK (c_X9_thrown l dC dI cy a m' (m_thrown m') rfl) (g_V gw905 gw906 gw907 gw63 gw908) hdV_X9_thrown rfl ⟨⟨Nat.le_of_ble_eq_true rfl, Nat.le_of_ble_eq_true rfl⟩, (show k1 + 2 ≤ 601024 by omega), (show k2 + 12 ≤ 7293034 by omega)⟩ hP hD hS hA ⟨rfl, rfl⟩ rfl (pm_mo _ _ _ _ _ _ _ _ _ _ _) (pn_mo _ _ _ _ _ _ _ _ _ _ _) hl.1 rfl (Nat.le_of_ble_eq_true rfl) rfl rfl rfl dL_law_1711 (fun H locs hP hD hS => ?_)
  refine lv_iload hx hb dL_law_1714 (lv_at hl 1 rfl) ?_
  refine lv_icmp_eq (tgt := 1721) hx hb dL_law_1716 (by decide) (fun _ => ?_) (fun z => absurd (AN.t an) z)
  refine lv_iload hx hb dL_law_1721 (lv_at hl 1 rfl) ?_
  have fin : W p l e room_1 s m #[Value.ref b] below meth c H locs (k1 + 2) (k2 + 12) Q (F0 m 1738 ls []) := by
    refine lv_goto (tgt := 1741) hx hb dL_law_1738 (by decide) ?_
    refine W.widen (k := k1 + 4) (n := k2 + 24) (by omega) (by omega) ?_
    exact K _ _ _ _ _ _ _ _ _ H locs ls iw' hP hD hS (lv_sub hl [2, 3, 4, 5, 6] rfl)
  refine lv_if_ne (tgt := 1738) hx hb dL_law_1723 (by decide) (fun _ => fin) (fun z0 => ?_)
  refine lv_aload_n hx hb dL_law_1726 rfl (lv_at hl 5 rfl) ?_
  refine lv_iconst (v := 0) hx hb dL_law_1727 (by decide) ?_
  refine va_lald hx hb hK hP 0 4 rfl rfl vp01 dL_law_1728 ?_
  refine lv_iload hx hb dL_law_1729 (lv_at hl 0 rfl) ?_
  refine lv_i2l (v := v.toInt64) hx hb dL_law_1731 rfl ?_
  refine W.lcmp hx hb dL_law_1732 ?_
  refine lv_if_eq (tgt := 1738) hx hb dL_law_1733 (by decide) (fun _ => fin) (fun z => absurd ((lg_cmp_eq _ _).mpr (AN.lo an z0)) z)
