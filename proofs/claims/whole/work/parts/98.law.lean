/-! the law's loop -/
set_option maxHeartbeats 8000000 in
theorem law_from (hland : ∀ (B : Int) (x : Int32), 0 ≤ B → Sim B B (C_land x) (M_land x)) (L : Nat) (xs : Nat → Int32) (hL : L ≤ 3072) : ∃ n, Law_L18 L xs n 0 h0 := by
  have e6 : (6 : Int32).toInt = 6 := by decide
  have lim : (Int32.ofNat L - 6).toInt = (L : Int) - 6 := by
    have a1 : (Int32.ofNat L).toInt = (L : Int) := nI_toInt (by omega)
    rw [i_sub (by rw [a1, e6]; omega), a1, e6]
  refine pk_loop (σ := Hp) (fun n i h => Law_L18 L xs n (nI (6 * i)) h) (fun i h => Inv (10000 * (i : Int)) h) (L / 6) 0 h0 (by omega) inv_0 (fun n h J => ?_) (fun n i h hi I hk => ?_)
  · unfold Law_L18
    refine ⟨fun _ => trivial, fun c => absurd ?_ c⟩
    rw [i_lt, lim, nI_toInt (by omega)]
    omega
  · have hi6 : 6 * i + 6 ≤ L := by omega
    have b0 : (0 : Int) ≤ 10000 * (i : Int) := by omega
    have b1 : 10000 * (i : Int) + 2000000 < 2 ^ 31 := by omega
    have p1 : vp_in (nI (6 * i) + 1) L = True := eq_true (by rw [nI_1]; exact pk_in (6 * i + 1) L (by omega))
    have p2 : vp_in (nI (6 * i) + 2) L = True := eq_true (by rw [show (2 : Int32) = nI 2 from rfl, nI_add]; exact pk_in (6 * i + 2) L (by omega))
    have p3 : vp_in (nI (6 * i) + 3) L = True := eq_true (by rw [show (3 : Int32) = nI 3 from rfl, nI_add]; exact pk_in (6 * i + 3) L (by omega))
    have p4 : vp_in (nI (6 * i) + 4) L = True := eq_true (by rw [show (4 : Int32) = nI 4 from rfl, nI_add]; exact pk_in (6 * i + 4) L (by omega))
    have p5 : vp_in (nI (6 * i) + 5) L = True := eq_true (by rw [show (5 : Int32) = nI 5 from rfl, nI_add]; exact pk_in (6 * i + 5) L (by omega))
    unfold Law_L18
    refine ⟨fun c => ?_, fun _ => ⟨pk_in (6 * i) L (by omega), ?_⟩⟩
    · rw [i_lt, lim, nI_toInt (by omega)] at c
      omega
    intro v1 _ J hJ
    have kJ : ∀ h2, Inv (10000 * ((i + 1 : Nat) : Int)) h2 → J h2 := by
      intro h2 I2
      rw [hJ]
      rintro _ rfl
      rw [show (6 : Int32) = nI 6 from rfl, nI_add, show 6 * i + 6 = 6 * (i + 1) by omega]
      exact hk h2 I2
    have k0 : ∀ h2, Inv (10000 * (i : Int)) h2 → J h2 := fun h2 I2 => kJ h2 (Inv_B I2 (by omega))
    have k99 : ∀ h2, Inv (10000 * (i : Int) + 99) h2 → J h2 := fun h2 I2 => kJ h2 (Inv_B I2 (by omega))
    have k9801 : ∀ h2, Inv (10000 * (i : Int) + 9801) h2 → J h2 := fun h2 I2 => kJ h2 (Inv_B I2 (by omega))
    have k3960 : ∀ h2, Inv (10000 * (i : Int) + 3960) h2 → J h2 := fun h2 I2 => kJ h2 (Inv_B I2 (by omega))
    clear hJ kJ hk
    simp only [p1, p2, p3, p4, p5, true_and]
    exact ⟨fun _ => k0 h I, fun _ => sim_feed h J I k0, fun _ => hland _ _ b0 h J I k0, fun _ => sim_fault h J I k0, fun _ => sim_place h J I k0, fun _ => sim_road h J I k0, fun _ => sim_pay h J I k0, fun _ => sim_move b0 (by omega) h J I k99, fun _ => sim_moves b0 (by omega) h J I k9801, fun _ => sim_plan h J I k0, fun _ => sim_plays h J I k0, fun _ => sim_weather h J I k0, fun _ => sim_undo h J I k0, fun _ => sim_judge b0 b1 h J I k0, fun _ => sim_perform b0 (by omega) h J I k3960, fun _ => sim_journey b0 (by omega) h J I k3960, fun _ => sim_rings h J I k0, fun _ => sim_ring h J I k0, fun _ => sim_reach h J I k0, fun _ => sim_onRing h J I k0, fun _ => sim_worth h J I k0, fun _ => sim_wins h J I k0, fun _ => sim_atLeast h J I k0, fun _ => sim_best h J I k0, fun _ => sim_secures h J I k0, fun _ => sim_meet h J I k0, fun _ => sim_plans h J I k0, fun _ => sim_energy h J I k0, fun _ => sim_at h J I k0, fun _ => sim_purse h J I k0, fun _ => sim_round h J I k0, fun _ => sim_paid h J I k0, fun _ => sim_rows h J I k0, fun _ => sim_sums h J I k0, fun _ => sim_sumsAt h J I k0, fun _ => sim_weathers h J I k0, fun _ => sim_ask h J I k0, fun _ => sim_chance h J I k0, fun _ => sim_mean h J I k0, fun _ => sim_numbers h J I k0, fun _ => sim_write h J I k0, fun _ => sim_lists h J I k0, fun _ => sim_image h J I k0, fun _ => sim_restore h J I k0, fun _ => sim_count h J I k0⟩
