/-! the start: what both hold at first -/
def sqQ : Nat → Pt := fun c => if c = 0 then (0, 0) else if c = 1 then (4, 0) else if c = 2 then (4, 4) else (0, 4)
def sqM : Nat → Nat := fun _ => 4
theorem sq_rf : RF figA8 sqM 1 sqQ := by
  refine ⟨by decide +kernel, by decide +kernel, by omega, fun r _ => by show 4 ≤ 10; omega, fun r hr => ?_, fun c hc => ?_, fun c hc => ?_⟩
  · obtain rfl : r = 0 := by omega
    decide +kernel
  · have hc : c < 4 := hc
    rcases (by omega : c = 0 ∨ c = 1 ∨ c = 2 ∨ c = 3) with rfl | rfl | rfl | rfl
    · decide +kernel
    · decide +kernel
    · decide +kernel
    · decide +kernel
  · have hc : c < 4 := hc
    rcases (by omega : c = 0 ∨ c = 1 ∨ c = 2 ∨ c = 3) with rfl | rfl | rfl | rfl
    · decide +kernel
    · decide +kernel
    · decide +kernel
    · decide +kernel
theorem sq_rs : RS (m_state mod5) sqM 1 sqQ := by
  refine ⟨by decide +kernel, by omega, fun r hr => ⟨by show 4 ≤ 10; omega, ?_⟩, fun r k hr hk => ?_⟩
  · obtain rfl : r = 0 := by omega
    decide +kernel
  · obtain rfl : r = 0 := by omega
    have hk : k < 4 := hk
    rcases (by omega : k = 0 ∨ k = 1 ∨ k = 2 ∨ k = 3) with rfl | rfl | rfl | rfl
    · decide +kernel
    · decide +kernel
    · decide +kernel
    · decide +kernel
theorem sq_ok : gm_ok sqM 1 sqQ := by
  have fit : gm_fit sqM 1 sqQ := fun c hc => by
    have hc : c < 4 := hc
    rcases (by omega : c = 0 ∨ c = 1 ∨ c = 2 ∨ c = 3) with rfl | rfl | rfl | rfl
    · decide +kernel
    · decide +kernel
    · decide +kernel
    · decide +kernel
  obtain ⟨z, z0, z5, br, e⟩ := s_firstBroken sq_rf fit (fun r _ => by show 3 ≤ 4; omega) (by omega)
  have e2 : G_X4_firstBroken figA8 = some 0 := by decide +kernel
  have e3 : iZ z = iZ 0 := Option.some.inj (e.symm.trans e2)
  have e4 : z = 0 := by
    have := congrArg Int32.toInt e3
    rw [iZ_toInt (by omega) (by omega), iZ_toInt (by omega) (by omega)] at this
    exact this
  exact gm_brk_ok ⟨by omega, by omega⟩ (fun r _ => by show 3 ≤ 4 ∧ 4 ≤ 10; omega) (e4 ▸ br)
theorem sq_iw : IW figA8 past0 (fun _ => fig0) (fun _ => 0) text0 mod5 := by
  refine ⟨⟨sqM, 1, sqQ, 0, fun _ => (1, sqM, sqQ), sq_ok, sq_rf, sq_rs, ⟨by omega, by decide +kernel, 0, by omega, by decide +kernel, fun i hi => absurd hi (Nat.not_lt_zero i)⟩, ⟨by omega, by decide +kernel, fun i hi => absurd hi (Nat.not_lt_zero i)⟩, fun i hi => absurd hi (Nat.not_lt_zero i)⟩, fun i hi => ?_, 0, fun _ => 0, ⟨by omega, by decide +kernel, fun i hi => absurd hi (Nat.not_lt_zero i)⟩, by decide +kernel, fun i hi => absurd hi (Nat.not_lt_zero i)⟩
  refine ⟨?_, Or.inl rfl⟩
  rcases (by omega : i = 0 ∨ i = 1) with rfl | rfl
  · decide +kernel
  · decide +kernel
