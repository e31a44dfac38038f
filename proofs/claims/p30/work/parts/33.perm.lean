/-! worlds with an opaque tail: by permutations -/
def wPF (a : Nat → Nat) (cy : Nat → ClassId) (z : Nat → Fig) : va_W := (List.range 14).flatMap fun i => wFig (fun j => a (2 + 5 * i + j)) cy (z i)
abbrev wP2 (a : Nat → Nat) (cy : Nat → ClassId) (z : PastS) : va_W := [(a 0, .inr (1, [.ref (a 1), .int (p_oldest z), .int (p_count z)])), (a 1, .inl (cy 3, 14, .inr (.inr (.inr (.inr (fun j => some (a (2 + 5 * j))))))))]
theorem va_P.perm {D : va_G} {cl : List vw_C} {ws ws' : va_W} {H : Heap} (h : va_P D cl ws H) (hp : ws.Perm ws') : va_P D cl ws' H := by
  intro k q hk
  obtain ⟨j, hj⟩ := List.getElem?_of_mem (hp.mem_iff.mpr (List.mem_of_getElem? hk))
  exact h j q hj
theorem va_D.nodup {A : Nat → Prop} {ws : va_W} : va_D A ws ↔ (ws.map (fun q => q.1)).Nodup ∧ ∀ q ∈ ws, A q.1 := by
  constructor
  · intro h
    refine ⟨List.pairwise_iff_getElem.mpr fun i j hi hj hij hc => ?_, fun q hq => ?_⟩
    · rw [List.length_map] at hi hj
      rw [List.getElem_map, List.getElem_map] at hc
      have := h.1 i j _ _ (List.getElem?_eq_getElem hi) (List.getElem?_eq_getElem hj) hc
      omega
    · obtain ⟨j, hj⟩ := List.getElem?_of_mem hq
      exact h.2 j q hj
  · intro h
    refine ⟨fun i j p q hi hj hpq => ?_, fun k q hk => h.2 q (List.mem_of_getElem? hk)⟩
    obtain ⟨hi1, hi2⟩ := List.getElem?_eq_some_iff.mp hi
    obtain ⟨hj1, hj2⟩ := List.getElem?_eq_some_iff.mp hj
    have key : ∀ a b (ha : a < ws.length) (hb : b < ws.length), a < b → ws[a].1 ≠ ws[b].1 := by
      intro a b ha hb hab
      have := List.pairwise_iff_getElem.mp h.1 a b (by rw [List.length_map]; exact ha) (by rw [List.length_map]; exact hb) hab
      rw [List.getElem_map, List.getElem_map] at this
      exact this
    rcases Nat.lt_trichotomy i j with a | a | a
    · exact absurd (by rw [hi2, hj2]; exact hpq) (key i j hi1 hj1 a)
    · exact a
    · exact absurd (by rw [hi2, hj2]; exact hpq.symm) (key j i hj1 hi1 a)
theorem va_D.perm {A : Nat → Prop} {ws ws' : va_W} (h : va_D A ws) (hp : ws.Perm ws') : va_D A ws' := by
  rw [va_D.nodup] at h ⊢
  exact ⟨(hp.map _).nodup_iff.mp h.1, fun q hq => h.2 q (hp.mem_iff.mpr hq)⟩
theorem va_D.left {A : Nat → Prop} {w1 w2 : va_W} (h : va_D A (w1 ++ w2)) : va_D A w1 := by
  rw [va_D.nodup] at h ⊢
  rw [List.map_append, List.nodup_append] at h
  exact ⟨h.1.1, fun q hq => h.2 q (List.mem_append_left _ hq)⟩
theorem va_P.left {D : va_G} {cl : List vw_C} {w1 w2 : va_W} {H : Heap} (h : va_P D cl (w1 ++ w2) H) : va_P D cl w1 H := by
  intro k q hk
  obtain ⟨j, hj⟩ := List.getElem?_of_mem (List.mem_append_left w2 (List.mem_of_getElem? hk))
  exact h j q hj
/-- behind a call, by a permutation: the callee's world and the rest -/
theorem va_joinp {A0 : Nat → Prop} {D : va_G} {cl : List vw_C} {ws wc wr w1 : va_W} {H H1 : Heap} (hP : va_P D cl ws H) (hD : va_D A0 ws) (hp : ws.Perm (wc ++ wr))
    (hk : ∀ q : Nat, q < H.size → ¬ va_A wc H.size q → H1[q]? = H[q]?) (hF : ∀ q, va_A wc H.size q → A0 q) (hP1 : va_P D cl w1 H1) (hD1 : va_D (va_A wc H.size) w1) : va_P D cl (wr ++ w1) H1 ∧ va_D A0 (wr ++ w1) := by
  have hP2 := hP.perm hp
  have hD2 := hD.perm hp
  have hn := va_D.nodup.mp hD2
  rw [List.map_append, List.nodup_append] at hn
  have apart : ∀ q ∈ wr, q.1 < H.size ∧ ¬ va_A wc H.size q.1 := by
    intro q hq
    obtain ⟨j, hj⟩ := List.getElem?_of_mem (List.mem_append_right wc hq)
    have hl := (hP2 j q hj).lt
    refine ⟨hl, fun h => ?_⟩
    rcases h with ⟨k2, e, h⟩ | h
    · exact hn.1.2.2 q.1 (List.mem_map_of_mem (f := fun q => q.1) (List.mem_of_getElem? h)) q.1 (List.mem_map_of_mem (f := fun q => q.1) hq) rfl
    · omega
  have hP1' : va_P D cl (wr ++ w1) H1 := by
    intro k q hk2
    rcases List.mem_append.mp (List.mem_of_getElem? hk2) with h | h
    · obtain ⟨j, hj⟩ := List.getElem?_of_mem (List.mem_append_right wc h)
      obtain ⟨g1, g2⟩ := apart q h
      exact (hP2 j q hj).kept (hk q.1 g1 g2)
    · obtain ⟨j, hj⟩ := List.getElem?_of_mem h
      exact hP1 j q hj
  refine ⟨hP1', va_D.nodup.mpr ⟨?_, fun q hq => ?_⟩⟩
  · rw [List.map_append, List.nodup_append]
    refine ⟨hn.1.2.1, (va_D.nodup.mp hD1).1, fun a ha b hb hab => ?_⟩
    obtain ⟨q, hq, rfl⟩ := List.mem_map.mp ha
    obtain ⟨q2, hq2, rfl⟩ := List.mem_map.mp hb
    exact (apart q hq).2 (by rw [hab]; exact (va_D.nodup.mp hD1).2 q2 hq2)
  · rcases List.mem_append.mp hq with h | h
    · exact hn.2 q (List.mem_append_right wc h)
    · exact hF q.1 ((va_D.nodup.mp hD1).2 q h)
theorem va_freep {A0 : Nat → Prop} {ws wc wr : va_W} {H0 H : Heap} {locs : List Loc} (hD : va_D A0 ws) (hS : va_S A0 H0 H locs) (hA : ∀ q, H0.size ≤ q → A0 q) (hp : ws.Perm (wc ++ wr)) : ∀ q, va_A wc H.size q → A0 q := by
  intro q h
  rcases h with ⟨k, e, h⟩ | h
  · exact (va_D.nodup.mp hD).2 (q, e) (hp.mem_iff.mpr (List.mem_append_left _ (List.mem_of_getElem? h)))
  · exact hA q (Nat.le_trans hS.1 h)
/-- a permutation, by places -/
theorem perm_ix {w1 wc wr : va_W} (n : Nat) (isC isR : List Nat) (hw : (List.range n).filterMap (fun i => w1[i]?) = w1) (hC : isC.filterMap (fun i => w1[i]?) = wc) (hR : isR.filterMap (fun i => w1[i]?) = wr) (hp : (List.range n).isPerm (isC ++ isR) = true) : w1.Perm (wc ++ wr) := by
  have h := (List.isPerm_iff.mp hp).filterMap (fun i => w1[i]?)
  rw [hw, List.filterMap_append, hC, hR] at h
  exact h
theorem perm_N {w1 wc wr wo : va_W} (h : w1.Perm (wc ++ wr)) : (w1 ++ wo).Perm (wc ++ (wr ++ wo)) := by
  rw [← List.append_assoc]
  exact h.append_right wo
theorem perm_T {w1 wc wr wo : va_W} (h : w1.Perm (wc ++ wr)) : (w1 ++ wo).Perm ((wc ++ wo) ++ wr) := by
  refine (h.append_right wo).trans ?_
  rw [List.append_assoc, List.append_assoc]
  exact List.perm_append_comm.append_left wc
theorem perm_Nb {r wc w1 wo : va_W} (h : w1.Perm (r ++ wc)) : ((r ++ wo) ++ wc).Perm (w1 ++ wo) := by
  refine List.Perm.trans ?_ (h.append_right wo).symm
  rw [List.append_assoc, List.append_assoc]
  exact List.perm_append_comm.append_left r
theorem perm_Tb {r wc w1 wo : va_W} (h : w1.Perm (r ++ wc)) : (r ++ (wc ++ wo)).Perm (w1 ++ wo) := by
  rw [← List.append_assoc]
  exact (h.append_right wo).symm
