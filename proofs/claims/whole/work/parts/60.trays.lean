/-! trays, images, feed, count -/
theorem inv_tray {B : Int} {h h2 : Hp} (I : Inv B h) (F1 : ∀ o k, sc2 o k = false → ¬ (46 ≤ o ∧ o ≤ 54) → o ≠ 124 → o ≠ 125 → gI h2 o k = gI h o k) (F2 : ∀ o k, sc2 o k = false → ¬ (46 ≤ o ∧ o ≤ 54) → o ≠ 126 → gJ h2 o k = gJ h o k) (T : iTray h2) : Inv B h2 := by
  obtain ⟨i1, i2, i3, i4, i5, i6, i7, i8, i9⟩ := I
  have e99 : ∀ k, gI h2 99 k = gI h 99 k := fun k => F1 99 k rfl (by omega) (by omega) (by omega)
  have eR : rowM h2 = rowM h := funext e99
  have E : LSame (rowM h) (rowM h2) := fun k _ _ => e99 k
  have elo : ∀ o k, o < 73 → o ≠ 22 → o ≠ 23 → ¬ (46 ≤ o ∧ o ≤ 54) → gI h2 o k = gI h o k := fun o k a b c d => F1 o k (sc2_lo a b c) d (by omega) (by omega)
  have elj : ∀ o k, o < 73 → o ≠ 22 → o ≠ 23 → ¬ (46 ≤ o ∧ o ≤ 54) → gJ h2 o k = gJ h o k := fun o k a b c d => F2 o k (sc2_lo a b c) d (by omega)
  have eS : stdM h2 = stdM h := funext (fun k => e99 _)
  refine ⟨kLand i1 E (fun o j a b => elo o j (by omega) (by omega) (by omega) (by omega)), ⟨by rw [eR, eS]; exact i2.1, by rw [eS]; exact StdR_k i2.2 (fun x j hx => elo x j (by omega) (by omega) (by omega) (by omega)) (elj 20 1 (by omega) (by omega) (by omega) (by omega))⟩, kPast i3 i1.1 E (fun k _ _ => e99 k) (fun o j a b => elo o j (by omega) (by omega) (by omega) (by omega)) (fun o j a b => elj o j (by omega) (by omega) (by omega) (by omega)), kImg i4 (fun k _ => e99 k) (elo 0 15 (by omega) (by omega) (by omega) (by omega)) (fun i => F1 100 i rfl (by omega) (by omega) (by omega)) (fun o j a b => elo o j (by omega) (by omega) (by omega) (by omega)) (fun o j a b => elj o j (by omega) (by omega) (by omega) (by omega)), T, kTape i6 (elo 0 1 (by omega) (by omega) (by omega) (by omega)) (fun j => elo 1 j (by omega) (by omega) (by omega) (by omega)) (F1 98 5 rfl (by omega) (by omega) (by omega)) (fun j => F1 101 j rfl (by omega) (by omega) (by omega)), kFlt i7 (elo 2 13 (by omega) (by omega) (by omega) (by omega)) (elo 2 14 (by omega) (by omega) (by omega) (by omega)) (F1 98 13 rfl (by omega) (by omega) (by omega)) (F1 98 14 rfl (by omega) (by omega) (by omega)), kGame i8 i1.1 E (fun o j a b => F1 o j ?_ (by omega) (by omega) (by omega)), (F1 90 0 rfl (by omega) (by omega) (by omega)).trans i9⟩
  have b1 : (o == 22) = false := by simp; omega
  have b2 : (o == 23) = false := by simp; omega
  have b3 : (o == 98) = false := by simp; omega
  have b4 : decide (o ≤ 79) = false := by simp; omega
  have b5 : decide (86 ≤ o) = false := by simp; omega
  have b6 : decide (102 ≤ o) = false := by simp; omega
  simp only [sc2, scC, scM, b1, b2, b3, b4, b5, b6, Bool.false_and, Bool.and_false, Bool.or_false]
theorem j_fill {h : Hp} {Q : Hp → Prop} {o : Nat} {x : Int32} {n : Nat} (hn : alen o = n) (h31 : n < 2 ^ 31) (k : ∀ h1, Fp (fun p _ => p == o) h h1 → (∀ j, j < n → gI h1 o j = x) → Q h1) : J7_fill_53178 o x h Q := by
  unfold J7_fill_53178
  rw [hn]
  rintro _ rfl
  refine pk_loop (σ := Hp) (fun n' i h1 => J7_fill_53178_L5 o x (Int32.ofNat n) Q n' (nI i) h1) (fun i h1 => Fp (fun p _ => p == o) h h1 ∧ ∀ j, j < i → gI h1 o j = x) n 0 h (by omega) ⟨Fp.rf _ h, fun j hj => absurd hj (by omega)⟩ (fun n' h1 I => ?_) (fun n' i h1 hi I hk => ?_)
  · unfold J7_fill_53178_L5
    exact pk_le n n (fun _ => k h1 I.1 I.2) (fun q => absurd q (by omega))
  · unfold J7_fill_53178_L5
    rw [hn]
    refine pk_le n i (fun q => absurd q (by omega)) (fun _ => ⟨pk_in i n hi, ?_⟩)
    rw [cl i]
    rintro _ rfl _ rfl
    rw [nI_1]
    refine hk _ ⟨Fp.sI I.1 (by simp), fun j hj => ?_⟩
    by_cases e : j = i
    · subst e; rw [sI_s]
    · rw [sI_k e]; exact I.2 j (by omega)
theorem j_fillJ {h : Hp} {Q : Hp → Prop} {o : Nat} {x : Int64} {n : Nat} (hn : alen o = n) (h31 : n < 2 ^ 31) (k : ∀ h1, Fp (fun p _ => p == o) h h1 → (∀ j, j < n → gJ h1 o j = x) → Q h1) : J7_fill_d0a16 o x h Q := by
  unfold J7_fill_d0a16
  rw [hn]
  rintro _ rfl
  refine pk_loop (σ := Hp) (fun n' i h1 => J7_fill_d0a16_L6 o x (Int32.ofNat n) Q n' (nI i) h1) (fun i h1 => Fp (fun p _ => p == o) h h1 ∧ ∀ j, j < i → gJ h1 o j = x) n 0 h (by omega) ⟨Fp.rf _ h, fun j hj => absurd hj (by omega)⟩ (fun n' h1 I => ?_) (fun n' i h1 hi I hk => ?_)
  · unfold J7_fill_d0a16_L6
    exact pk_le n n (fun _ => k h1 I.1 I.2) (fun q => absurd q (by omega))
  · unfold J7_fill_d0a16_L6
    rw [hn]
    refine pk_le n i (fun q => absurd q (by omega)) (fun _ => ⟨pk_in i n hi, ?_⟩)
    rw [cl i]
    rintro _ rfl _ rfl
    rw [nI_1]
    refine hk _ ⟨Fp.sJ I.1 (by simp), fun j hj => ?_⟩
    by_cases e : j = i
    · subst e; rw [sJ_s]
    · rw [sJ_k e]; exact I.2 j (by omega)
theorem alTr : ∀ t, t < 4 → alen (48 + 2 * t) = 40 := by decide
theorem sim_numbers {B : Int} {x y z : Int32} : Sim B B (C_numbers x y z) (M_numbers x y z) := by
  intro h K I k
  have T : iTray h := I.2.2.2.2.1
  have l0 : (0 : Int32).toInt = 0 := by decide
  have l3 : (3 : Int32).toInt = 3 := by decide
  have l40 : (40 : Int32).toInt = 40 := by decide
  have m0 : (0 : Int64).toInt = 0 := rfl
  have m3 : (3 : Int64).toInt = 3 := rfl
  have m40 : (40 : Int64).toInt = 40 := rfl
  by_cases hx : ∃ t, t < 4 ∧ x = nI t
  · obtain ⟨t, ht, rfl⟩ := hx
    obtain ⟨r1, r2⟩ := rf46 t ht
    have mt : ∀ {h1 : Hp} {R : Int32 → Hp → Prop}, R 1 h1 → M_within ((nI t).toInt64) 0 3 h1 R := fun r => m_inY (by rw [i_l, nI_toInt (by omega)]; omega) (by rw [i_l, nI_toInt (by omega)]; omega) r
    by_cases hy : 0 ≤ y.toInt ∧ y.toInt ≤ 3
    · by_cases hz : 0 ≤ z.toInt ∧ z.toInt ≤ 40
      · obtain ⟨n, hn⟩ : ∃ n : Nat, z.toInt = n := ⟨z.toInt.toNat, by omega⟩
        have ez : z = nI n := by rw [nI_i z (by omega), hn]; rfl
        have n40 : n ≤ 40 := by omega
        unfold C_numbers
        refine c_tray ht (brF (by decide) (brF (by rw [i_lt]; omega) (brT (by rw [i_le]; omega) (brF (by rw [i_lt]; omega) (brT (by rw [i_le]; omega) ⟨pk_in t 4 ht, ?_⟩)))))
        rw [cl t, r1]
        unfold Tray_renew
        rintro _ rfl
        unfold J9_min_7cf53
        have mn : ∀ P1 P2 : Prop, P2 → ((40 : Int32) < z → P1) ∧ (¬ (40 : Int32) < z → P2) := fun P1 P2 p => brF (by rw [i_lt]; omega) p
        apply mn
        rintro _ rfl
        rw [r2]
        refine j_fillJ (alTr t ht) (by omega) (fun h1 f1 z1 => ?_)
        have eI1 : ∀ o j, ¬ (o = 47 + 2 * t ∧ j = 0) → ¬ (o = 47 + 2 * t ∧ j = 1) → o ≠ 48 + 2 * t → gI h1 o j = gI h o j := fun o j a b c => by
          rw [f1.1 o j (by simp [c]), gI_sI, if_neg b, gI_sI, if_neg a]
        have eJ1 : ∀ o j, o ≠ 48 + 2 * t → gJ h1 o j = gJ h o j := fun o j c => f1.2 o j (by simp [c])
        have c0 : gI h1 (47 + 2 * t) 0 = y := by rw [f1.1 _ _ (by simp), sI_k (by decide), sI_s]
        have c1 : gI h1 (47 + 2 * t) 1 = nI n := by rw [f1.1 _ _ (by simp), sI_s]; exact ez
        unfold M_numbers
        rintro _ rfl
        refine mt (brF (by decide) (m_inY (by rw [i_l]; omega) (by rw [i_l]; omega) (brF' (by decide) (m_inY (by rw [i_l]; omega) (by rw [i_l]; omega) (brF' (by decide) ⟨pk_in t 4 ht, ?_⟩)))))
        rw [cl t]
        rintro _ rfl
        refine ⟨pk_in t 4 ht, ?_⟩
        rintro _ rfl
        rw [ez]
        refine pk_loop (σ := Hp) (fun n' i h2 => M_numbers_L64 (nI t) (nI n) _ n' (nI i) h2) (fun i h2 => (∀ o j, gI h2 o j = gI (sI (sI (sI h1 98 0 0) 124 t y) 125 t (nI n)) o j) ∧ (∀ o j, o ≠ 126 → gJ h2 o j = gJ h1 o j) ∧ (∀ j, ¬ (40 * t ≤ j ∧ j < 40 * t + 40) → gJ h2 126 j = gJ h1 126 j) ∧ ∀ j, j < i → gJ h2 126 (40 * t + j) = 0) n 0 _ (by omega) ⟨fun _ _ => rfl, fun _ _ _ => rfl, fun _ _ => rfl, fun j hj => absurd hj (by omega)⟩ (fun n' h2 J => ?_) (fun n' i h2 hi J hk => ?_)
        · obtain ⟨g1, g2, g3, g4⟩ := J
          unfold M_numbers_L64
          refine pk_le n n (fun _ => simEnd (k h2 ?_)) (fun q => absurd q (by omega))
          refine inv_tray I (fun o j q a b c => ?_) (fun o j q a b => ?_) (fun u hu => ?_)
          · rw [g1, sI_o c, sI_o b, gI_sI, if_neg (by rintro ⟨rfl, rfl⟩; exact absurd q (by decide))]
            exact eI1 o j (by omega) (by omega) (by omega)
          · rw [g2 o j b]; exact eJ1 o j (by omega)
          · by_cases e : u = t
            · subst e
              have a4 : gI h2 124 u = y := by rw [g1, sI_o (by decide), sI_s]
              have a5 : gI h2 125 u = nI n := by rw [g1, sI_s]
              have a0 : ∀ j, gI h2 (47 + 2 * u) j = gI h1 (47 + 2 * u) j := fun j => by rw [g1, sI_o (by omega), sI_o (by omega), sI_o (by omega)]
              refine ⟨⟨by rw [a4, a0, c0], by rw [a5, a0, c1], Or.inr ⟨y.toInt.toNat, by omega, by rw [a4]; exact nI_i y hy.1⟩⟩, n, n40, a5, fun j hj => ?_⟩
              rw [g4 j hj, g2 _ _ (by omega), z1 j (by omega)]
            · obtain ⟨⟨t1, t2, t3⟩, m, hm, em, ej⟩ := T u hu
              have a4 : gI h2 124 u = gI h 124 u := by rw [g1, sI_o (by decide), sI_k e, sI_o (by decide)]; exact eI1 124 u (by omega) (by omega) (by omega)
              have a5 : gI h2 125 u = gI h 125 u := by rw [g1, sI_k e, sI_o (by decide), sI_o (by decide)]; exact eI1 125 u (by omega) (by omega) (by omega)
              have a0 : ∀ j, gI h2 (47 + 2 * u) j = gI h (47 + 2 * u) j := fun j => by rw [g1, sI_o (by omega), sI_o (by omega), sI_o (by omega)]; exact eI1 _ j (by omega) (by omega) (by omega)
              rw [a4, a5, a0, a0]
              refine ⟨⟨t1, t2, t3⟩, m, hm, em, fun j hj => ?_⟩
              rw [g3 _ (by omega), g2 _ _ (by omega), eJ1 126 _ (by omega), eJ1 _ j (by omega)]
              exact ej j hj
        · obtain ⟨g1, g2, g3, g4⟩ := J
          unfold M_numbers_L64
          have e40 : (40 : Int32) * nI t + nI i = nI (40 * t + i) := by
            show nI 40 * nI t + nI i = _
            rw [pk_mul, nI_add]
          rw [e40]
          refine pk_le n i (fun q => absurd q (by omega)) (fun _ => ⟨pk_in (40 * t + i) 160 (by omega), ?_⟩)
          rw [cl (40 * t + i)]
          rintro _ rfl _ rfl
          rw [nI_1]
          refine hk _ ⟨g1, fun o j a => by rw [sJ_o a]; exact g2 o j a, fun j hj => by rw [sJ_k (by omega)]; exact g3 j hj, fun j hj => ?_⟩
          by_cases e : j = i
          · subst e; rw [sJ_s]
          · rw [sJ_k (by omega)]; exact g4 j (by omega)
      · refine sim_q I k (-3) (fun Q hQ => ?_) (fun h1 Q I1 eR f1 hQ => ?_)
        · have := hQ h (Fp.rf _ h)
          unfold C_numbers
          refine c_tray ht (brF (by decide) (brF (by rw [i_lt]; omega) (brT (by rw [i_le]; omega) ⟨fun _ => this, fun q => ⟨fun q2 => ?_, fun _ => this⟩⟩)))
          rw [i_lt] at q
          rw [i_le] at q2
          exact absurd ⟨by omega, by omega⟩ hz
        · unfold M_numbers
          rintro _ rfl
          exact mt (brF (by decide) (m_inY (by rw [i_l]; omega) (by rw [i_l]; omega) (brF' (by decide) (m_inN (by rw [i_l]; omega) (brT' rfl (hQ _ FpThr))))))
    · refine sim_q I k (-2) (fun Q hQ => ?_) (fun h1 Q I1 eR f1 hQ => ?_)
      · have := hQ h (Fp.rf _ h)
        unfold C_numbers
        refine c_tray ht (brF (by decide) ⟨fun _ => this, fun q => ⟨fun q2 => ?_, fun _ => this⟩⟩)
        rw [i_lt] at q
        rw [i_le] at q2
        exact absurd ⟨by omega, by omega⟩ hy
      · unfold M_numbers
        rintro _ rfl
        exact mt (brF (by decide) (m_inN (by rw [i_l]; omega) (brT' rfl (hQ _ FpThr))))
  · refine sim_q I k (-2) (fun Q hQ => ?_) (fun h1 Q I1 eR f1 hQ => ?_)
    · unfold C_numbers
      exact c_trayN hx (brT rfl (hQ h (Fp.rf _ h)))
    · unfold M_numbers
      rintro _ rfl
      refine m_inN ?_ (brT rfl (hQ _ FpThr))
      rw [i_l]
      have : ¬ (0 ≤ x.toInt ∧ x.toInt < ((4 : Nat) : Int)) := fun e => hx ((exN (n := 4) (by omega)).mpr e)
      omega
