/-! lots -/
theorem p10 {n : Nat} (h : n ≤ 5) : 10 ^ n ≤ 100000 ∧ 0 < 10 ^ n := ⟨Nat.le_trans (Nat.pow_le_pow_right (by omega) h) (by decide), Nat.pow_pos (by omega)⟩
theorem l_10 {n : Nat} (h : n ≤ 5) : lN (10 ^ n) * (10 : Int64) = lN (10 ^ (n + 1)) := by
  have := p10 h
  have l : (10 : Int64).toInt = 10 := rfl
  rw [Nat.pow_succ, l_eq, l_mul (by rw [pk_lT (by omega), l]; omega), pk_lT (by omega), l, pk_lT (by omega)]
  omega
theorem m_whole {h : Hp} {Q : Int64 → Hp → Prop} {n : Nat} (hn : n ≤ 5) (k : Q (lN (10 ^ n)) h) : M_wholeOf (nI n) h Q := by
  unfold M_wholeOf
  refine pk_loop (σ := Unit) (fun n' i _ => M_wholeOf_L4 (nI n) Q n' (lN (10 ^ i)) (nI i) h) (fun _ _ => True) n 0 () (by omega) trivial (fun n' _ _ => ?_) (fun n' i _ hi _ hk => ?_)
  · unfold M_wholeOf_L4
    exact pk_le n n (fun _ => k) (fun c => absurd c (by omega))
  · unfold M_wholeOf_L4
    refine pk_le n i (fun c => absurd c (by omega)) (fun _ => ?_)
    rw [l_10 (by omega)]
    rintro _ rfl _ rfl
    rw [nI_1 i]
    exact hk () trivial
