/-! chance, mean -/
theorem cL_31 (a : Row) (w t : Nat) {n : Nat} (hn : n ≤ 5) (x : Int) : smN (fun p => cL a w t n p x) 8 < 2 ^ 31 := by
  have b : 26 ^ n ≤ 26 ^ 5 := Nat.pow_le_pow_right (by decide) hn
  have : smN (fun p => cL a w t n p x) 8 ≤ 8 * 26 ^ n := smN_le (fun p _ => cL_bd a w t n p x)
  have e : (26 : Nat) ^ 5 = 11881376 := by decide
  omega
theorem m_laysLots {h : Hp} {Q : Hp → Prop} {a : Row} {w t n : Nat} (O : LandOK a) (h99 : ∀ j, gI h 99 j = a j) (ew : a 61 = nI w) (ht : t < nP a) (et : a 58 = nI t) (hn : n ≤ 5) (k : ∀ h1, Fp scM h h1 → gJ h1 98 41 = Int64.ofInt (IT a w (fun _ s => safeF s) n t (a 59).toInt) → gJ h1 98 42 = Int64.ofInt (IT a w (fun _ s => s) n t (a 59).toInt) → Q h1) : M_laysLots (nI n) h Q := by
  have bd := i_bd (a 59)
  unfold M_laysLots
  refine s_laysWays O h99 ew (fun h1 f1 z1 => ?_)
  rintro _ rfl _ rfl
  have F1 : Fp scM h h1 := f1.fp scM_W
  have F2 : Fp o4142 h1 (sJ (sJ h1 98 41 0) 98 42 0) := Fp.sJ (Fp.sJ (Fp.rf _ _) rfl) rfl
  have g99 : ∀ j, gI (sJ (sJ h1 98 41 0) 98 42 0) 99 j = a j := fun j => (F2.1 99 j rfl).trans ((F1.1 99 j rfl).trans (h99 j))
  rw [g99, g99, et]
  have := m_lots (w := w) O n 8 t (a 59).toInt 1 (sJ (sJ h1 98 41 0) 98 42 0) Q (by omega) ht (by omega) (ways_42 F2 z1) (fun h2 f2 q1 q2 => k h2 ((F1.tr (F2.mo scM_42)).tr (f2.mo scM_42)) ?_ ?_)
  · exact this
  · rw [q1, sJ_k (by decide), sJ_s, Int64.one_mul, Int64.zero_add]
  · rw [q2, sJ_s, Int64.one_mul, Int64.zero_add]
theorem ofI_64 (x : Int32) : x.toInt64 = Int64.ofInt x.toInt := rfl
theorem sf_bd (s : Int) : ((safeF s).natAbs : Int) ≤ (s.natAbs : Int) + 1 := by
  unfold safeF; split <;> omega
theorem lots_bd {a : Row} {w : Nat} {f : Int → Int} (hf : ∀ s : Int, ((f s).natAbs : Int) ≤ (s.natAbs : Int) + 1) {n p : Nat} (hn : n ≤ 5) (m : Int32) : (Int64.ofInt (IT a w (fun _ s => f s) n p m.toInt)).toInt.natAbs < 2 ^ 62 := by
  have b := i_bd m
  have := IT_bd (a := a) (w := w) hf n p m.toInt 2147485000 (by omega)
  have p1 := p10 hn
  have : (2147485000 : Int) * ((10 ^ n : Nat) : Int) ≤ 2147485000 * 100000 := Int.mul_le_mul_of_nonneg_left (by omega) (by omega)
  rw [oi_T (by omega)]
  omega
theorem p10_64 {n : Nat} (hn : n ≤ 5) : 0 < (lN (10 ^ n)).toInt ∧ (lN (10 ^ n)).toInt < 2 ^ 45 := by
  have p1 := p10 hn
  rw [pk_lT (by omega)]; omega
theorem m_is5 {h : Hp} {Q : Int32 → Hp → Prop} {x : Int32} (kY : ∀ n, n ≤ 5 → x = nI n → Q 1 h) (kN : ¬ (∃ n, n ≤ 5 ∧ x = nI n) → Q 0 h) : M_within x.toInt64 (0 : Int64) (5 : Int64) h Q := by
  have a1 : (0 : Int64).toInt = 0 := rfl
  have a2 : (5 : Int64).toInt = 5 := rfl
  refine m_in (fun h1 h2 => ?_) (fun h1 => kN (fun ⟨n, hn, e⟩ => h1 ?_))
  · rw [a1] at h1
    rw [a2] at h2
    exact kY x.toInt.toNat (by omega) (nI_i x h1)
  · rw [a1, a2, e, nI_toInt (by omega)]; omega
theorem c_is5 {A B : Prop} {x : Int32} (kY : ∀ n, n ≤ 5 → x = nI n → A) (kN : ¬ (∃ n, n ≤ 5 ∧ x = nI n) → B) : (x < 0 → B) ∧ (¬ x < 0 → (x ≤ 5 → A) ∧ (¬ x ≤ 5 → B)) := by
  refine ⟨fun q => kN (fun ⟨n, hn, e⟩ => ?_), fun q => ?_⟩
  · rw [e] at q; exact absurd q (nI_pos (by omega))
  · obtain ⟨n, n31, rfl⟩ := nI_of q
    refine pk_le n 5 (fun c => kY n (by omega) rfl) (fun c => kN (fun ⟨m, hm, e⟩ => ?_))
    rw [nI_eq n31 (by omega)] at e; omega
theorem scD_20 {h h1 : Hp} (F : Fp oS h h1) : gJ h1 20 1 = gJ h 20 1 := F.2 20 1 rfl
theorem sim_chance {B : Int} {x y : Int32} : Sim B B (C_chance x y) (M_chance x y) := by
  intro h K I k
  obtain ⟨O, L⟩ : iLand h := I.1
  have h8 := O.1.2.1
  obtain ⟨w, t, hw, ht, ew, et, e0, e3⟩ := rowsAll I
  have em : gJ h 20 1 = (rowM h 59).toInt64 := I.2.1.2.2.1
  by_cases hy : y = 0 ∨ y = 1
  · by_cases hx : ∃ n, n ≤ 5 ∧ x = nI n
    · obtain ⟨n, hn, rfl⟩ := hx
      have bd := i_bd (rowM h 59)
      have b1 := lots_bd (a := rowM h) (w := w) sf_bd (p := t) hn (rowM h 59)
      have b2 := p10_64 hn
      refine sim_q I k (lowT (Int64.ofInt (IT (rowM h) w (fun _ s => safeF s) n t (rowM h 59).toInt)) (lN (10 ^ n)) y).toInt32 (fun Q hQ => ?_) (fun h1 Q I1 eR f1 hQ => ?_)
      · unfold C_chance
        refine c_either (fun _ => brF' (by decide) (c_is5 (fun m _ _ => ?_) (fun q => absurd ⟨n, hn, rfl⟩ q))) (fun q => absurd hy q)
        refine c_drawLots L O hw (by omega) hn e0 e3 (fun h1 l s f1 T l1 l2 l3 l4 => ?_)
        rw [scD_20 f1, em, ofI_64]
        refine c_keepL T l4 (by omega) bd (fun v => cL_31 (rowM h) w t hn v) ?_
        rw [ipr_n O (by omega) n hn, IT_sh, Int.add_zero]
        exact c_lowest b1 b2 (hQ h1 (f1.mo scD_S))
      · unfold M_chance
        rintro _ rfl
        refine m_either (fun _ => brF' (by decide) (m_is5 (fun m _ _ => brF' (by decide) ?_) (fun q => absurd ⟨n, hn, rfl⟩ q))) (fun q => absurd hy q)
        refine m_laysLots (a := rowM h) O (fun j => by rw [sI_o (by decide)]; exact f1.1 99 j rfl) ew ht et hn (fun h2 f2 q1 q2 => m_whole hn ?_)
        rw [q1]
        exact m_part b1 b2 (hQ h2 (FpThr.tr f2))
    · refine sim_q I k (-3) (fun Q hQ => ?_) (fun h1 Q I1 eR f1 hQ => ?_)
      · unfold C_chance
        exact c_either (fun _ => brF' (by decide) (c_is5 (fun m hm em => absurd ⟨m, hm, em⟩ hx) (fun _ => hQ h (Fp.rf _ h)))) (fun q => absurd hy q)
      · unfold M_chance
        rintro _ rfl
        exact m_either (fun _ => brF' (by decide) (m_is5 (fun m hm em => absurd ⟨m, hm, em⟩ hx) (fun _ => brT' rfl (hQ _ FpThr)))) (fun q => absurd hy q)
  · refine sim_q I k (-2) (fun Q hQ => ?_) (fun h1 Q I1 eR f1 hQ => ?_)
    · unfold C_chance
      exact c_either (fun q => absurd q hy) (fun _ => brT' rfl (hQ h (Fp.rf _ h)))
    · unfold M_chance
      rintro _ rfl
      exact m_either (fun q => absurd q hy) (fun _ => brT' rfl (hQ _ FpThr))
theorem sim_mean {B : Int} {x y : Int32} : SimJ B B (C_mean x y) (M_mean x y) := by
  intro h K I k
  obtain ⟨O, L⟩ : iLand h := I.1
  have h8 := O.1.2.1
  obtain ⟨w, t, hw, ht, ew, et, e0, e3⟩ := rowsAll I
  have em : gJ h 20 1 = (rowM h 59).toInt64 := I.2.1.2.2.1
  by_cases hy : y = 0 ∨ y = 1
  · by_cases hx : ∃ n, n ≤ 5 ∧ x = nI n
    · obtain ⟨n, hn, rfl⟩ := hx
      have b1 := lots_bd (a := rowM h) (w := w) (f := fun s => s) (fun s => by omega) (p := t) hn (rowM h 59)
      have b2 := p10_64 hn
      refine sim_qJ I k (lowT (Int64.ofInt (IT (rowM h) w (fun _ s => s) n t (rowM h 59).toInt)) (lN (10 ^ n)) y) (fun Q hQ => ?_) (fun h1 Q I1 eR f1 hQ => ?_)
      · unfold C_mean
        refine c_either (fun _ => brF' (by decide) (c_is5 (fun m _ _ => ?_) (fun q => absurd ⟨n, hn, rfl⟩ q))) (fun q => absurd hy q)
        refine c_drawLots L O hw (by omega) hn e0 e3 (fun h1 l s f1 T l1 l2 l3 l4 => ?_)
        refine c_paidAll T l4 (by omega) (fun v => cL_31 (rowM h) w t hn v) ?_
        rw [scD_20 f1, em, ofI_64, ipr_n O (by omega) n hn, ← oi_N, ← Int64.ofInt_mul, ← Int64.ofInt_add, ← IT_c (rowM h) w (rowM h 59).toInt n t 0, ← IT_add, IT_sh (rowM h) w (fun s => s), Int.add_zero, oi_N]
        exact c_lowest b1 b2 (hQ h1 (f1.mo scD_S))
      · unfold M_mean
        rintro _ rfl
        refine m_either (fun _ => brF' (by decide) (m_is5 (fun m _ _ => brF' (by decide) ?_) (fun q => absurd ⟨n, hn, rfl⟩ q))) (fun q => absurd hy q)
        refine m_laysLots (a := rowM h) O (fun j => by rw [sI_o (by decide)]; exact f1.1 99 j rfl) ew ht et hn (fun h2 f2 q1 q2 => m_whole hn ?_)
        rw [q2]
        exact m_part b1 b2 (hQ h2 (FpThr.tr f2))
    · refine sim_qJ I k (-9000000000000000003) (fun Q hQ => ?_) (fun h1 Q I1 eR f1 hQ => ?_)
      · unfold C_mean
        exact c_either (fun _ => brF' (by decide) (c_is5 (fun m hm em => absurd ⟨m, hm, em⟩ hx) (fun _ => hQ h (Fp.rf _ h)))) (fun q => absurd hy q)
      · unfold M_mean
        rintro _ rfl
        exact m_either (fun _ => brF' (by decide) (m_is5 (fun m hm em => absurd ⟨m, hm, em⟩ hx) (fun _ => brT' rfl (hQ _ FpThr)))) (fun q => absurd hy q)
  · refine sim_qJ I k (-9000000000000000002) (fun Q hQ => ?_) (fun h1 Q I1 eR f1 hQ => ?_)
    · unfold C_mean
      exact c_either (fun q => absurd q hy) (fun _ => brT' rfl (hQ h (Fp.rf _ h)))
    · unfold M_mean
      rintro _ rfl
      exact m_either (fun q => absurd q hy) (fun _ => brT' rfl (hQ _ FpThr))
