/-! the state at the start -/
theorem h0_row : (∀ k, k < 8 → rowM h0 (62 + k) = -1) ∧ rowM h0 0 = 0 ∧ rowM h0 1 = 1 ∧ rowM h0 2 = 0 ∧ rowM h0 3 = 1 ∧ rowM h0 4 = 0 ∧ rowM h0 5 = 0 ∧ rowM h0 58 = 0 ∧ rowM h0 59 = 0 ∧ rowM h0 60 = 0 ∧ rowM h0 61 = 0 ∧ rowM h0 70 = 0 := by decide
theorem h0_P : nP (rowM h0) = 1 ∧ nR (rowM h0) = 0 := by decide
theorem h0_std : stdM h0 0 = 0 ∧ stdM h0 1 = 0 ∧ stdM h0 2 = 0 ∧ stdM h0 3 = 0 ∧ ∀ p, p < 8 → stdM h0 (4 + p) = -1 := by decide
theorem h0_21 : ∀ p, p < 8 → gI h0 21 p = -1 := by decide
theorem h0_17 : ∀ p, p < 8 → gI h0 17 p = 0 := by decide
theorem h0_18 : ∀ p, p < 10 → gI h0 18 p = 0 := by decide
theorem h0_tr : ∀ t, t < 4 → gI h0 124 t = gI h0 (47 + 2 * t) 0 ∧ gI h0 125 t = gI h0 (47 + 2 * t) 1 ∧ gI h0 124 t = -1 ∧ gI h0 125 t = 0 := by decide
theorem inv_0 : Inv 0 h0 := by
  obtain ⟨r62, r0, r1, r2, r3, r4, r5, r58, r59, r60, r61, r70⟩ := h0_row
  obtain ⟨np, nr⟩ := h0_P
  obtain ⟨s0, s1, s2, s3, s4⟩ := h0_std
  refine ⟨⟨⟨⟨by omega, by omega, by rw [r1, np]; rfl⟩, ⟨by omega, by rw [r2, nr]; rfl⟩, fun r hr => by rw [nr] at hr; omega, Or.inl r4, Or.inl r5, 1, by rw [r3]; rfl, by rw [np]; decide⟩, ?_⟩, ⟨⟨⟨0, by omega, by rw [s0]; rfl⟩, ⟨0, by omega, by rw [s3]; rfl⟩, fun p hp => Or.inl (s4 p hp), ?_⟩, ?_⟩, ⟨0, 0, by omega, by omega, ?_, rfl, rfl, fun i hi => absurd hi (by omega)⟩, ⟨⟨0, by omega, rfl, fun i hi => ?_⟩, fun i hi hb => ?_⟩, fun t ht => ?_, ⟨0, by omega, rfl, rfl, fun k hk => absurd hk (by omega)⟩, ⟨rfl, rfl⟩, Or.inl rfl, rfl⟩
  · refine ⟨by rw [r1]; rfl, by rw [r3]; rfl, by rw [r2]; rfl, by rw [r0]; rfl, fun r hr => by rw [nr] at hr; omega, fun p hp => ?_, fun w hw => ?_, fun w r hw hr => by rw [nr] at hr; omega⟩
    · rw [nr, h0_17 p hp]; rfl
    · rw [nr, h0_18 w hw]; rfl
  · rw [s1]; decide
  · refine ⟨by rw [s0]; rfl, by rw [s1]; rfl, by rw [s2]; rfl, by rw [s3]; rfl, fun p hp => by rw [s4 p hp]; exact h0_21 p hp⟩
  · exact r70
  · constructor
    · intro b; rw [Nat.zero_testBit] at b; cases b
    · intro b
      have : i = 0 ∨ i = 1 := by omega
      rcases this with rfl | rfl <;> exact absurd rfl b
  · have : i = 0 ∨ i = 1 := by omega
    rcases this with rfl | rfl <;> exact absurd rfl hb
  · obtain ⟨t1, t2, t3, t4⟩ := h0_tr t ht
    exact ⟨⟨t1, t2, Or.inl t3⟩, 0, by omega, by rw [t4]; rfl, fun k hk => absurd hk (by omega)⟩
