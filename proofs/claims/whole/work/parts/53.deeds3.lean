/-! move, moves, undo -/
theorem sim_move {B : Int} {x : Int32} (h0 : 0 ≤ B) (hB : B + 99 < 2 ^ 31) : SimJ B (B + 99) (C_move x) (M_move x) := by
  intro h K I k
  obtain ⟨O, L⟩ := I.1
  obtain ⟨sO, sR⟩ : iStd B h := I.2.1
  obtain ⟨m, nx, pC, pM, pO⟩ := iPast_to I.2.2.1
  obtain ⟨p, hp, ep⟩ := sO.1
  obtain ⟨w, hw, ew⟩ := sO.2.1
  have h8 := O.1.2.1
  by_cases hy : whyM (rowM h) w p x.toInt = 0
  · obtain ⟨we, hx16, etw⟩ := whyM_ok O hy
    generalize he : wayX p x.toInt = e at we etw
    have ex : x = nI (tw e) := by rw [etw]; exact nI_i x hx16.1
    have e24 := way24 O (by omega) we
    unfold C_move
    refine c_whyMove L O sR hp ep hw ew ?_
    rw [hy]
    refine brT rfl (c_keep sR rfS.1 (by omega) (by omega) pC (fun h1 f1 pC1 => ?_))
    have sR1 : StdR h1 20 21 (stdM h) := StdR_k sR (fun y j hy => f1.1 y j (oK_lo (by omega))) (f1.2 20 1 (oK_lo (by omega)))
    have L1 : Lnd h1 (rowM h) := I.lnd (fun o j h1 h2 => f1.1 o j (oK_lo (by omega)))
    rw [sR1.2.1]
    intro v4 hv4
    rw [hv4]
    clear hv4 v4
    rw [ex]
    refine c_goAlong L1 O sR1 (Or.inl rfl) rfl sO hB ep hw ew we (fun h2 f2 L2 R2 => ?_)
    have FC : Fp scA h h2 := (f1.mo oK_A).tr (f2.mo (fun o j q => by
      simp only [scA, Bool.or_eq_false_iff] at q
      simp only [oP, Bool.or_eq_false_iff]
      exact q.2.1))
    have ans : gJ h2 20 1 - (stdM h 1).toInt64 = (ppA (rowM h) w e).toInt64 := by
      rw [R2.2.1]
      apply Int64.toInt_inj.mp
      have g := goS_1 (a := rowM h) (s := stdM h) (w := w) (e := e) sO.2.2.2 hB
      have b1 := i_bd (goS (rowM h) w e (stdM h) 1)
      have b2 := i_bd (stdM h 1)
      rw [l_sub (by rw [i_l, i_l]; omega), i_l, i_l, i_l, g]
      omega
    rw [ans, ← ex]
    unfold M_move
    rintro _ rfl
    have s58 : ∀ j, j < 12 → gI (sI h2 98 0 0) 99 (58 + j) = stdM h j := fun j hj => by
      rw [sI_o (by decide)]; exact FC.1 99 _ rfl
    have E1 : LSame (rowM h) (rowM (sI h2 98 0 0)) := fun j _ _ => by
      show gI _ 99 j = _
      rw [sI_o (by decide)]; exact FC.1 99 j rfl
    refine m_whyMove O E1 s58 hp ep hw ew (fun h3 f3 r3 z3 => ?_)
    rw [i_l, hy]
    refine brT rfl (m_stores (fun h4 f4 s4 => ?_))
    have r34 : ∀ j, gI h3 99 j = gI (sI h2 98 0 0) 99 j := fun j => congrFun r3 j
    have s584 : ∀ j, j < 12 → gI h4 99 (58 + j) = stdM h j := fun j hj => by
      rw [f4.1 99 _ rfl, r34]; exact s58 j hj
    have z4 : WaysM h4 (rowM h) w := WaysM_k z3 (fun o j h1 h2 => f4.1 o j (by simp; omega))
    have tell : ∀ R : Int32 → Hp → Prop, R (nI e) h4 → M_wayToldBy x h4 R := by
      intro R r
      unfold M_wayToldBy
      have e58 : gI h4 99 58 = nI p := (s584 0 (by omega)).trans ep
      rw [e58, ex]
      rw [← he] at r ⊢
      unfold wayX at r ⊢
      by_cases q : x.toInt = 16
      · rw [if_pos q] at r ⊢
        refine pk_le 16 (tw (16 + p)) (fun _ => ?_) (fun q2 => ?_) (hb := by unfold tw; split <;> omega)
        · have e16 : (16 : Int32) + nI p = nI (16 + p) := nI_add 16 p
          rw [e16]; exact r
        · unfold tw at q2; rw [if_neg (by omega)] at q2; omega
      · rw [if_neg q] at r ⊢
        have : tw x.toInt.toNat = x.toInt.toNat := by unfold tw; rw [if_pos (by omega)]
        rw [this]
        exact pk_le 16 x.toInt.toNat (fun q2 => absurd q2 (by omega)) (fun _ => r) (hb := by omega)
    refine tell _ (m_goes z4 hp e24 we s584 (fun h5 f5 s5 => ?_))
    have F3 : Fp oB h2 h4 := ((FpThr.mo scM_B).tr (f3.mo scM_B)).tr (f4.mo o109_B)
    refine push_end I (by omega) (s := goS (rowM h) w e (stdM h)) FC (F3.tr (f5.mo oG_B)) (PastC_k pC1 (fun o j h1 h2 => f2.1 o j (by simp only [oP, Bool.or_eq_false_iff, beq_eq_false_iff_ne]; omega)) (fun o j h1 h2 => f2.2 o j (by simp only [oP, Bool.or_eq_false_iff, beq_eq_false_iff_ne]; omega))) pC.1 pM pO R2 s5 (goS_ok O sO hp we hB) (fun j hj => ?_) (fun h6 I6 f6 => simEnd (k h6 I6))
    rw [f5.1 109 j rfl, s4 j hj, r34]
    exact s58 j hj
  · refine sim_qJ I (fun h2 I2 => k h2 (Inv_B I2 (by omega))) (-9000000000000000010 - (whyM (rowM h) w p x.toInt).toInt64) (fun Q hQ => ?_) (fun h1 Q I1 eR f1 hQ => ?_)
    · unfold C_move
      exact c_whyMove L O sR hp ep hw ew (brF hy (hQ h (Fp.rf _ h)))
    · unfold M_move
      rintro _ rfl
      have s58 : ∀ j, j < 12 → gI (sI h1 98 0 0) 99 (58 + j) = stdM h j := fun j hj => by
        rw [sI_o (by decide)]; exact f1.1 99 _ rfl
      have E1 : LSame (rowM h) (rowM (sI h1 98 0 0)) := fun j _ _ => by
        show gI _ 99 j = _
        rw [sI_o (by decide)]; exact f1.1 99 j rfl
      refine m_whyMove O E1 s58 hp ep hw ew (fun h3 f3 r3 z3 => ?_)
      rw [i_l]
      exact brF hy (hQ _ (FpThr.tr f3))
def itS (a : Row) : Nat → Row → Row
  | 0, s => s
  | n + 1, s => stp a (itS a n s)
theorem itS_ok {a s : Row} {B : Int} (O : LandOK a) (h : StdOK a s B) : ∀ n : Nat, B + 99 * n < 2 ^ 31 → StdOK a (itS a n s) (B + 99 * n)
  | 0, _ => by show StdOK a s (B + 99 * ((0 : Nat) : Int)); rw [show B + 99 * ((0 : Nat) : Int) = B by omega]; exact h
  | n + 1, hb => by
    have := stp_ok O (itS_ok O h n (by omega)) (by omega)
    rw [show B + 99 * ((n + 1 : Nat) : Int) = B + 99 * (n : Int) + 99 by omega]
    exact this
theorem stp_3 (a s : Row) : stp a s 3 = s 3 := rfl
theorem itS_3 (a s : Row) : ∀ n, itS a n s 3 = s 3
  | 0 => rfl
  | n + 1 => itS_3 a s n
theorem sim_moves {B : Int} {x : Int32} (h0 : 0 ≤ B) (hB : B + 10000 < 2 ^ 31) : SimJ B (B + 9801) (C_moves x) (M_moves x) := by
  intro h K I k
  obtain ⟨O, L⟩ := I.1
  obtain ⟨sO, sR⟩ : iStd B h := I.2.1
  obtain ⟨m, nx, pC, pM, pO⟩ := iPast_to I.2.2.1
  obtain ⟨w, hw, ew⟩ := sO.2.1
  have h8 := O.1.2.1
  by_cases hx : 1 ≤ x.toInt ∧ x.toInt ≤ 99
  · obtain ⟨n, hn⟩ : ∃ n : Nat, x.toInt = n := ⟨x.toInt.toNat, by omega⟩
    have ex : x = nI n := by rw [nI_i x (by omega), hn]; rfl
    have n99 : n ≤ 99 := by omega
    rw [ex]
    unfold C_moves
    refine pk_lt n 1 (fun q => absurd q (by omega)) (fun _ => pk_le n 99 (fun _ => ?_) (fun q => absurd q (by omega)))
    refine c_keep sR rfS.1 (by omega) (by omega) pC (fun h1 f1 pC1 => ?_)
    have sR1 : StdR h1 20 21 (stdM h) := StdR_k sR (fun y j hy => f1.1 y j (oK_lo (by omega))) (f1.2 20 1 (oK_lo (by omega)))
    have L1 : Lnd h1 (rowM h) := I.lnd (fun o j h1 h2 => f1.1 o j (oK_lo (by omega)))
    rw [sR1.2.1]
    intro v4 hv4
    rw [hv4]
    clear hv4 v4
    refine pk_loop (σ := Hp) (fun n' i h2 => C_moves_L37 (nI n) (stdM h 1).toInt64 _ n' (nI i) h2) (fun i h2 => Fp (oP 20 21) h1 h2 ∧ Lnd h2 (rowM h) ∧ StdR h2 20 21 (itS (rowM h) i (stdM h))) n 0 h1 (by omega) ⟨Fp.rf _ h1, L1, sR1⟩ (fun n' h2 J => ?_) (fun n' i h2 hi J hk => ?_)
    · obtain ⟨f2, L2, R2⟩ := J
      unfold C_moves_L37
      refine pk_le n n (fun _ => ?_) (fun q => absurd q (by omega))
      have FC : Fp scA h h2 := (f1.mo oK_A).tr (f2.mo (fun o j q => by
        simp only [scA, Bool.or_eq_false_iff] at q
        simp only [oP, Bool.or_eq_false_iff]
        exact q.2.1))
      rw [R2.2.1]
      unfold M_moves
      rintro _ rfl
      refine m_inY (by rw [i_l, nI_toInt (by omega)]; show (1 : Int) ≤ _; omega) (by rw [i_l, nI_toInt (by omega)]; show _ ≤ (99 : Int); omega) (brF' (by decide) ?_)
      refine m_stores (fun h4 f4 s4 => ?_)
      have s58 : ∀ j, j < 12 → gI (sI h2 98 0 0) 99 (58 + j) = stdM h j := fun j hj => by
        rw [sI_o (by decide)]; exact FC.1 99 _ rfl
      have s584 : ∀ j, j < 12 → gI h4 99 (58 + j) = stdM h j := fun j hj => by
        rw [f4.1 99 _ rfl]; exact s58 j hj
      have E4 : LSame (rowM h) (rowM h4) := fun j _ _ => by
        show gI _ 99 j = _
        rw [f4.1 99 _ rfl, sI_o (by decide)]; exact FC.1 99 j rfl
      refine m_ways' O E4 ((s584 3 (by omega)).trans ew) (fun h5 f5 r5 z5 => ?_)
      have s1095 : ∀ j, j < 12 → gI h5 109 j = stdM h j := fun j hj => by
        rw [f5.1 109 j rfl, s4 j hj]; exact s58 j hj
      refine pk_loop (σ := Hp) (fun n' i h6 => M_moves_L31 (nI n) _ n' (nI i) h6) (fun i h6 => Fp oG h5 h6 ∧ WaysM h6 (rowM h) w ∧ ∀ j, j < 12 → gI h6 99 (58 + j) = itS (rowM h) i (stdM h) j) n 0 h5 (by omega) ⟨Fp.rf _ h5, z5, fun j hj => (congrFun r5 _).trans (s584 j hj)⟩ (fun n' h6 J6 => ?_) (fun n' i h6 hi J6 hk => ?_)
      · obtain ⟨f6, z6, s6⟩ := J6
        unfold M_moves_L31
        refine pk_le n n (fun _ => ?_) (fun q => absurd q (by omega))
        have F5 : Fp oB h2 h6 := (((FpThr.mo scM_B).tr (f4.mo o109_B)).tr ((f5.fp scM_W).mo scM_B)).tr (f6.mo oG_B)
        refine push_end (C := B + 9801) I (by omega) (s := itS (rowM h) n (stdM h)) FC F5 (PastC_k pC1 (fun o j h1 h2 => f2.1 o j (by simp only [oP, Bool.or_eq_false_iff, beq_eq_false_iff_ne]; omega)) (fun o j h1 h2 => f2.2 o j (by simp only [oP, Bool.or_eq_false_iff, beq_eq_false_iff_ne]; omega))) pC.1 pM pO R2 s6 (StdOK_B (itS_ok O sO n (by omega)) (by omega)) (fun j hj => (f6.1 109 j rfl).trans (s1095 j hj)) (fun h7 I7 f7 => ?_)
        have e59 : gI h7 99 59 = itS (rowM h) n (stdM h) 1 := (f7.1 99 59 rfl).trans (s6 1 (by omega))
        have e1 : gI h7 109 1 = stdM h 1 := (f7.1 109 1 rfl).trans ((f6.1 109 1 rfl).trans (s1095 1 (by omega)))
        rw [e59, e1]
        exact simEnd (k h7 I7)
      · obtain ⟨f6, z6, s6⟩ := J6
        unfold M_moves_L31
        refine pk_le n i (fun q => absurd q (by omega)) (fun _ => ?_)
        refine m_goPlan (Q := fun h10 => ∀ v11 : Int32, v11 = (nI i + 1) → M_moves_L31 (nI n) _ n' v11 h10) O z6 (itS_ok O sO i (by omega)) ((itS_3 _ _ i).trans ew) hw s6 (fun h8 f8 s8 => ?_)
        rintro _ rfl
        rw [nI_1]
        exact hk h8 ⟨f6.tr f8, WaysM_k z6 (fun o j h1 h2 => f8.1 o j (by simp only [oG, Bool.and_eq_false_iff, beq_eq_false_iff_ne]; left; omega)), s8⟩
    · obtain ⟨f2, L2, R2⟩ := J
      unfold C_moves_L37
      refine pk_le n i (fun q => absurd q (by omega)) (fun _ => ?_)
      refine c_goByPlan L2 O R2 (Or.inl rfl) rfl (itS_ok O sO i (by omega)) (by omega) (fun h3 f3 L3 R3 => ?_)
      rintro _ rfl
      rw [nI_1]
      exact hk h3 ⟨f2.tr f3, L3, R3⟩
  · have l1 : (1 : Int32).toInt = 1 := by decide
    have l99 : (99 : Int32).toInt = 99 := by decide
    refine sim_qJ I (fun h2 I2 => k h2 (Inv_B I2 (by omega))) (-9000000000000000003) (fun Q hQ => ?_) (fun h1 Q I1 eR f1 hQ => ?_)
    · have := hQ h (Fp.rf _ h)
      unfold C_moves
      refine ⟨fun _ => this, fun q => ⟨fun q2 => ?_, fun _ => this⟩⟩
      rw [i_lt] at q
      rw [i_le] at q2
      exact absurd ⟨by omega, by omega⟩ hx
    · unfold M_moves
      rintro _ rfl
      refine m_inN ?_ (brT' rfl (hQ _ FpThr))
      rw [i_l]
      have h1 : (1 : Int64).toInt = 1 := rfl
      have h2 : (99 : Int64).toInt = 99 := rfl
      omega
