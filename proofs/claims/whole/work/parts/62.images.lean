/-! images -/
def LndO (h : Hp) (o : Nat) (a : Row) : Prop := LndR h o (o + 1) (o + 2) (o + 3) (o + 4) (o + 5) a
def oL (o0 : Nat) : Nat → Nat → Bool := fun o _ => decide (o0 ≤ o) && decide (o ≤ o0 + 5)
theorem c_lcopy {h : Hp} {Q : Hp → Prop} {o0 o1 : Nat} {a : Row} (e0 : rf o0 4 = o0 + 1 ∧ rf o0 5 = o0 + 2 ∧ rf o0 6 = o0 + 3 ∧ rf o0 7 = o0 + 4 ∧ rf o0 8 = o0 + 5) (e1 : rf o1 4 = o1 + 1 ∧ rf o1 5 = o1 + 2 ∧ rf o1 6 = o1 + 3 ∧ rf o1 7 = o1 + 4 ∧ rf o1 8 = o1 + 5) (d : o0 + 5 < o1 ∨ o1 + 5 < o0) (h16 : nR a ≤ 16) (R : LndO h o1 a) (k : ∀ h1, Fp (oL o0) h h1 → LndO h1 o0 a → Q h1) : Land_copy o0 o1 h Q := by
  obtain ⟨r1, r2, r3, r4, r5, r6, r7, r8⟩ := R
  unfold Land_copy
  rw [e0.1, e0.2.1, e0.2.2.1, e0.2.2.2.1, e0.2.2.2.2, e1.1, e1.2.1, e1.2.2.1, e1.2.2.2.1, e1.2.2.2.2]
  rintro h1 hh1 h2 hh2 h3 hh3 h4 hh4
  refine ⟨by decide, ?_⟩
  rintro h5 hh5
  refine ⟨by decide, ?_⟩
  rintro h6 hh6
  refine ⟨by decide, ?_⟩
  rintro h7 hh7
  refine ⟨by decide, ?_⟩
  rintro h8 hh8
  refine ⟨by decide, ?_⟩
  rintro h9 hh9
  have z0 : (0 : Int32).toNatClampNeg = 0 := by decide
  have z8 : (8 : Int32).toNatClampNeg = 8 := by decide
  have z16 : (16 : Int32).toNatClampNeg = 16 := by decide
  have z10 : (10 : Int32).toNatClampNeg = 10 := by decide
  have z160 : (160 : Int32).toNatClampNeg = 160 := by decide
  rw [z0, z16] at hh5 hh6
  rw [z0, z8] at hh7
  rw [z0, z10] at hh8
  rw [z0, z160] at hh9
  have ho : ∀ o j, o0 ≤ o → o ≤ o0 + 5 → oL o0 o j = true := fun o j a b => by simp [oL, a, b]
  have far : ∀ o, o1 ≤ o → o ≤ o1 + 5 → o < o0 ∨ o0 + 5 < o := fun o a b => by omega
  have k4 : ∀ o j, o < o0 ∨ o0 + 5 < o → gI h4 o j = gI h o j := fun o j q => by
    rw [hh4, sI_o (by omega), hh3, sI_o (by omega), hh2, sI_o (by omega), hh1, sI_o (by omega)]
  have k5 : ∀ o j, o ≠ o0 + 1 → gI h5 o j = gI h4 o j := fun o j q => by rw [hh5, gI_cI, if_neg (fun e => q e.1)]
  have k6 : ∀ o j, o ≠ o0 + 2 → gI h6 o j = gI h5 o j := fun o j q => by rw [hh6, gI_cI, if_neg (fun e => q e.1)]
  have k7 : ∀ o j, o ≠ o0 + 3 → gI h7 o j = gI h6 o j := fun o j q => by rw [hh7, gI_cI, if_neg (fun e => q e.1)]
  have k8 : ∀ o j, o ≠ o0 + 4 → gI h8 o j = gI h7 o j := fun o j q => by rw [hh8, gI_cI, if_neg (fun e => q e.1)]
  have k9 : ∀ o j, o ≠ o0 + 5 → gI h9 o j = gI h8 o j := fun o j q => by rw [hh9, gI_cI, if_neg (fun e => q e.1)]
  have f0 : ∀ j, gI h9 o0 j = gI h4 o0 j := fun j => by rw [k9 _ _ (by omega), k8 _ _ (by omega), k7 _ _ (by omega), k6 _ _ (by omega), k5 _ _ (by omega)]
  refine k h9 ?_ ⟨?_, ?_, ?_, ?_, fun r hr => ⟨?_, ?_⟩, fun p hp => ?_, fun w hw => ?_, fun w r hw hr => ?_⟩
  · rw [hh9]
    refine Fp.cI ?_ (fun j _ _ => ho _ _ (by omega) (by omega))
    rw [hh8]
    refine Fp.cI ?_ (fun j _ _ => ho _ _ (by omega) (by omega))
    rw [hh7]
    refine Fp.cI ?_ (fun j _ _ => ho _ _ (by omega) (by omega))
    rw [hh6]
    refine Fp.cI ?_ (fun j _ _ => ho _ _ (by omega) (by omega))
    rw [hh5]
    refine Fp.cI ?_ (fun j _ _ => ho _ _ (by omega) (by omega))
    rw [hh4]
    refine Fp.sI ?_ (ho _ _ (by omega) (by omega))
    rw [hh3]
    refine Fp.sI ?_ (ho _ _ (by omega) (by omega))
    rw [hh2]
    refine Fp.sI ?_ (ho _ _ (by omega) (by omega))
    rw [hh1]
    exact Fp.sI (Fp.rf _ h) (ho _ _ (by omega) (by omega))
  · rw [f0, hh4, sI_k (by decide), hh3, sI_k (by decide), hh2, sI_k (by decide), hh1, sI_s]; exact r1
  · rw [f0, hh4, sI_k (by decide), hh3, sI_k (by decide), hh2, sI_s, hh1, sI_o (by omega)]; exact r2
  · rw [f0, hh4, sI_k (by decide), hh3, sI_s, hh2, sI_o (by omega), hh1, sI_o (by omega)]; exact r3
  · rw [f0, hh4, sI_s, hh3, sI_o (by omega), hh2, sI_o (by omega), hh1, sI_o (by omega)]; exact r4
  · rw [k9 _ _ (by omega), k8 _ _ (by omega), k7 _ _ (by omega), k6 _ _ (by omega), hh5, gI_cI, if_pos ⟨rfl, by omega, by omega⟩, k4 _ _ (far _ (by omega) (by omega)), show 0 + (r - 0) = r by omega]
    exact (r5 r hr).1
  · rw [k9 _ _ (by omega), k8 _ _ (by omega), k7 _ _ (by omega), hh6, gI_cI, if_pos ⟨rfl, by omega, by omega⟩, k5 _ _ (by omega), k4 _ _ (far _ (by omega) (by omega)), show 0 + (r - 0) = r by omega]
    exact (r5 r hr).2
  · rw [k9 _ _ (by omega), k8 _ _ (by omega), hh7, gI_cI, if_pos ⟨rfl, by omega, by omega⟩, k6 _ _ (by omega), k5 _ _ (by omega), k4 _ _ (far _ (by omega) (by omega)), show 0 + (p - 0) = p by omega]
    exact r6 p hp
  · rw [k9 _ _ (by omega), hh8, gI_cI, if_pos ⟨rfl, by omega, by omega⟩, k7 _ _ (by omega), k6 _ _ (by omega), k5 _ _ (by omega), k4 _ _ (far _ (by omega) (by omega)), show 0 + (w - 0) = w by omega]
    exact r7 w hw
  · rw [hh9, gI_cI, if_pos ⟨rfl, by omega, by omega⟩, k8 _ _ (by omega), k7 _ _ (by omega), k6 _ _ (by omega), k5 _ _ (by omega), k4 _ _ (far _ (by omega) (by omega)), show 0 + (16 * w + r - 0) = 16 * w + r by omega]
    exact r8 w r hw hr
theorem rf14 : rf 14 4 = 14 + 1 ∧ rf 14 5 = 14 + 2 ∧ rf 14 6 = 14 + 3 ∧ rf 14 7 = 14 + 4 ∧ rf 14 8 = 14 + 5 := by decide
theorem rf55 : ∀ i, i < 2 → rf 55 i = 56 + 6 * i ∧ rf 68 i = 69 + 2 * i ∧ rf (69 + 2 * i) 4 = 70 + 2 * i ∧ (rf (56 + 6 * i) 4 = 56 + 6 * i + 1 ∧ rf (56 + 6 * i) 5 = 56 + 6 * i + 2 ∧ rf (56 + 6 * i) 6 = 56 + 6 * i + 3 ∧ rf (56 + 6 * i) 7 = 56 + 6 * i + 4 ∧ rf (56 + 6 * i) 8 = 56 + 6 * i + 5) := by decide
theorem LndI_O {h : Hp} {i : Nat} {a : Row} : LndI h i a ↔ LndO h (56 + 6 * i) a := by
  unfold LndI LndO
  rw [show 56 + 6 * i + 1 = 57 + 6 * i by omega, show 56 + 6 * i + 2 = 58 + 6 * i by omega, show 56 + 6 * i + 3 = 59 + 6 * i by omega, show 56 + 6 * i + 4 = 60 + 6 * i by omega, show 56 + 6 * i + 5 = 61 + 6 * i by omega]
theorem c_image {h : Hp} {Q : Int32 → Hp → Prop} {i : Nat} (hi : i < 2) (k : Q 1 h) : C_isImage (nI i) h Q := by
  unfold C_isImage
  exact brF (nI_pos (by omega)) (pk_le 2 i (fun q => absurd q (by omega)) (fun _ => k))
theorem c_imageN {h : Hp} {Q : Int32 → Hp → Prop} {x : Int32} (hx : ¬ ∃ i, i < 2 ∧ x = nI i) (k : Q 0 h) : C_isImage x h Q := by
  unfold C_isImage
  refine ⟨fun _ => k, fun q => ⟨fun _ => k, fun q2 => absurd ?_ hx⟩⟩
  obtain ⟨j, hj, rfl⟩ := nI_of q
  refine ⟨j, ?_, rfl⟩
  have q2 : ¬ nI 2 ≤ nI j := q2
  rw [nI_leI (by omega) hj] at q2
  omega
theorem sim_image {B : Int} {x : Int32} : Sim B B (C_image x) (M_image x) := by
  intro h K I k
  obtain ⟨O, L⟩ := I.1
  obtain ⟨sO, sR⟩ : iStd B h := I.2.1
  have m0 : (0 : Int64).toInt = 0 := rfl
  have m1 : (1 : Int64).toInt = 1 := rfl
  by_cases hx : ∃ i, i < 2 ∧ x = nI i
  · obtain ⟨i, hi, rfl⟩ := hx
    obtain ⟨r1, r2, r3, r4⟩ := rf55 i hi
    obtain ⟨⟨b, b1, b2, b3⟩, g2⟩ : iImg B h := I.2.2.2.1
    unfold C_image
    refine c_image hi (brF' (by decide) ⟨pk_in i 2 hi, ?_⟩)
    rw [cl i, r1, r2]
    refine c_lcopy r4 rf14 (by omega) O.2.1.1 (show LndO h 14 (rowM h) from L) (fun h1 f1 R1 => ⟨pk_in i 2 hi, ?_⟩)
    have lo1 : ∀ o j, o < 56 + 6 * i ∨ 61 + 6 * i < o → gI h1 o j = gI h o j := fun o j q => f1.1 o j (by simp [oL]; omega)
    have lj1 : ∀ o j, o < 56 + 6 * i ∨ 61 + 6 * i < o → gJ h1 o j = gJ h o j := fun o j q => f1.2 o j (by simp [oL]; omega)
    refine c_copy (StdR_k sR (h1 := h1) (fun y j hy => lo1 y j (by omega)) (lj1 20 1 (by omega))) r3 rfS.1 (by omega) (by omega) (by omega) (by omega) (by omega) (fun h2 f2 R2 => ?_)
    have lo2 : ∀ o j, o ≠ 69 + 2 * i → o ≠ 70 + 2 * i → gI h2 o j = gI h1 o j := fun o j a b => f2.1 o j (by simp [oP, a, b])
    have lj2 : ∀ o j, o ≠ 69 + 2 * i → o ≠ 70 + 2 * i → gJ h2 o j = gJ h1 o j := fun o j a b => f2.2 o j (by simp [oP, a, b])
    have e15 : gI h2 0 15 = nI b := by rw [lo2 _ _ (by omega) (by omega), lo1 _ _ (by omega)]; exact b2
    rintro h3 hh3
    rw [e15, z_1 i (by omega), z_or] at hh3
    have lo3 : ∀ o j, ¬ (o = 0 ∧ j = 15) → ¬ (56 ≤ o ∧ o ≤ 72) → gI h3 o j = gI h o j := fun o j a b => by
      rw [hh3, gI_sI, if_neg a, lo2 _ _ (by omega) (by omega), lo1 _ _ (by omega)]
    have lj3 : ∀ o j, ¬ (56 ≤ o ∧ o ≤ 72) → gJ h3 o j = gJ h o j := fun o j b => by
      rw [hh3]
      show gJ h2 o j = _
      rw [lj2 _ _ (by omega) (by omega), lj1 _ _ (by omega)]
    have R3 : LndO h3 (56 + 6 * i) (rowM h) := LndR_k R1 (fun y j hy => by rw [hh3, sI_o (by omega)]; exact lo2 y j (by omega) (by omega))
    have S3 : StdR h3 (69 + 2 * i) (70 + 2 * i) (stdM h) := StdR_k R2 (fun y j hy => by rw [hh3, sI_o (by omega)]) (by rw [hh3]; rfl)
    unfold M_image
    rintro _ rfl
    refine m_inY (by rw [i_l, nI_toInt (by omega)]; omega) (by rw [i_l, nI_toInt (by omega)]; omega) (brF' (by decide) ?_)
    have e99 : ∀ j, gI (sI h3 98 0 0) 99 j = gI h 99 j := fun j => by rw [sI_o (by decide)]; exact lo3 99 j (by omega) (by omega)
    refine pk_loop (σ := Hp) (fun n j h4 => M_image_L20 (nI i) _ n (nI j) h4) (fun j h4 => (∀ o l, o ≠ 99 → gI h4 o l = gI (sI h3 98 0 0) o l) ∧ (∀ o l, gJ h4 o l = gJ h3 o l) ∧ (∀ l, ¬ (1092 * (i + 1) ≤ l ∧ l < 1092 * (i + 1) + 1092) → gI h4 99 l = gI h 99 l) ∧ ∀ l, l < j → gI h4 99 (1092 * (i + 1) + l) = gI h 99 l) 1092 0 _ (by omega) ⟨fun _ _ _ => rfl, fun _ _ => rfl, fun l _ => e99 l, fun l hl => absurd hl (by omega)⟩ (fun n h4 J => ?_) (fun n j h4 hj J hk => ?_)
    · obtain ⟨q1, q2, q3, q4⟩ := J
      unfold M_image_L20
      refine pk_le 1092 1092 (fun _ => ⟨pk_in i 2 hi, ?_⟩) (fun q => absurd q (by omega))
      rw [cl i, show vp_nar .boolean 1 = 1 from by decide]
      rintro _ rfl
      refine simEnd (k _ ?_)
      have w1 : ∀ o l, ¬ (o = 0 ∧ l = 15) → ¬ (56 ≤ o ∧ o ≤ 72) → ¬ (o = 98 ∧ l = 0) → o ≠ 99 → o ≠ 100 → gI (sI h4 100 i 1) o l = gI h o l := fun o l a b c d e => by
        rw [sI_o e, q1 o l d, gI_sI, if_neg c]; exact lo3 o l a b
      have w2 : ∀ o l, ¬ (56 ≤ o ∧ o ≤ 72) → gJ (sI h4 100 i 1) o l = gJ h o l := fun o l b => (q2 o l).trans (lj3 o l b)
      have w99 : ∀ l, l < 1092 → gI (sI h4 100 i 1) 99 l = gI h 99 l := fun l hl => by rw [sI_o (by decide)]; exact q3 l (by omega)
      have E : LSame (rowM h) (rowM (sI h4 100 i 1)) := fun l hl _ => w99 l hl
      obtain ⟨i1, i2, i3, i4, i5, i6, i7, i8, i9⟩ := I
      have eS : ∀ l, l < 12 → stdM (sI h4 100 i 1) l = stdM h l := fun l hl => w99 _ (by omega)
      have EI : LSame (rowM h) (rowI (sI h4 100 i 1) i) := fun l hl _ => by
        show gI (sI h4 100 i 1) 99 (1092 * (i + 1) + l) = gI h 99 l
        rw [sI_o (by decide)]; exact q4 l hl
      have ES : ∀ l, l < 12 → (fun l => rowI (sI h4 100 i 1) i (58 + l)) l = stdM h l := fun l hl => by
        show gI (sI h4 100 i 1) 99 (1092 * (i + 1) + (58 + l)) = gI h 99 (58 + l)
        rw [sI_o (by decide)]; exact q4 _ (by omega)
      refine ⟨kLand i1 E (fun o j a b => w1 o j (by omega) (by omega) (by omega) (by omega) (by omega)), ⟨StdOK_c (le_std i1.1 E i2.1) eS, StdR_c (StdR_k i2.2 (fun y j hy => w1 y j (by omega) (by omega) (by omega) (by omega) (by omega)) (w2 20 1 (by omega))) eS⟩, kPast i3 i1.1 E (fun l _ hl => w99 l (by omega)) (fun o j a b => w1 o j (by omega) (by omega) (by omega) (by omega) (by omega)) (fun o j a b => w2 o j (by omega)), ⟨⟨b ||| 2 ^ i, ?_, ?_, fun u hu => ?_⟩, fun u hu hb => ?_⟩, kTray i5 (fun t => w1 124 t (by omega) (by omega) (by omega) (by omega) (by omega)) (fun t => w1 125 t (by omega) (by omega) (by omega) (by omega) (by omega)) (fun t => w2 126 t (by omega)) (fun o j a b => w1 o j (by omega) (by omega) (by omega) (by omega) (by omega)) (fun o j a b => w2 o j (by omega)), kTape i6 (w1 0 1 (by omega) (by omega) (by omega) (by omega) (by omega)) (fun j => w1 1 j (by omega) (by omega) (by omega) (by omega) (by omega)) (w1 98 5 (by omega) (by omega) (by omega) (by omega) (by omega)) (fun j => w1 101 j (by omega) (by omega) (by omega) (by omega) (by omega)), kFlt i7 (w1 2 13 (by omega) (by omega) (by omega) (by omega) (by omega)) (w1 2 14 (by omega) (by omega) (by omega) (by omega) (by omega)) (w1 98 13 (by omega) (by omega) (by omega) (by omega) (by omega)) (w1 98 14 (by omega) (by omega) (by omega) (by omega) (by omega)), kGame i8 i1.1 E (fun o j a b => w1 o j (by omega) (by omega) (by omega) (by omega) (by omega)), (w1 90 0 (by omega) (by omega) (by omega) (by omega) (by omega)).trans i9⟩
      · exact Nat.or_lt_two_pow (n := 2) b1 (Nat.pow_lt_pow_right (by decide) hi)
      · rw [sI_o (by decide), q1 0 15 (by omega), sI_o (by decide), hh3, sI_s]
      · rw [Nat.testBit_or, Bool.or_eq_true, Nat.testBit_two_pow, decide_eq_true_iff]
        by_cases e : u = i
        · subst e; rw [sI_s]; exact ⟨fun _ => by decide, fun _ => Or.inr rfl⟩
        · rw [sI_k e, q1 100 u (by omega), sI_o (by decide), lo3 100 u (by omega) (by omega), ← b3 u hu]
          exact ⟨fun q => q.resolve_right (fun r => e r.symm), Or.inl⟩
      · by_cases e : u = i
        · subst e
          refine ⟨⟨le_ok i1.1 EI, LndI_O.mpr (le_lnd i1.1 EI (LndR_k R3 (fun y j hy => ?_)))⟩, StdOK_c (le_std i1.1 EI i2.1) ES, StdR_c (StdR_k S3 (fun y j hy => ?_) ?_) ES⟩
          · rw [sI_o (by omega), q1 y j (by omega), sI_o (by omega)]
          · rw [sI_o (by omega), q1 y j (by omega), sI_o (by omega)]
          · exact q2 _ _
        · have hb' : ¬ gI h 100 u = 0 := by
            rw [sI_k e, q1 100 u (by omega), sI_o (by decide), lo3 100 u (by omega) (by omega)] at hb; exact hb
          have := g2 u hu hb'
          have eI : ∀ l, l < 1092 → rowI (sI h4 100 i 1) u l = rowI h u l := fun l hl => by
            show gI (sI h4 100 i 1) 99 (1092 * (u + 1) + l) = gI h 99 (1092 * (u + 1) + l)
            rw [sI_o (by decide)]; exact q3 _ (by omega)
          have Eu : LSame (rowI h u) (rowI (sI h4 100 i 1) u) := fun l hl _ => eI l hl
          have cu : ∀ o l, (56 + 6 * u ≤ o ∧ o ≤ 61 + 6 * u) ∨ o = 69 + 2 * u ∨ o = 70 + 2 * u → gI (sI h4 100 i 1) o l = gI h o l := fun o l ho => by
            rw [sI_o (by omega), q1 o l (by omega), sI_o (by omega), hh3, sI_o (by omega), lo2 _ _ (by omega) (by omega), lo1 _ _ (by omega)]
          have cuj : gJ (sI h4 100 i 1) (69 + 2 * u) 1 = gJ h (69 + 2 * u) 1 := by
            show gJ h4 _ _ = _
            rw [q2, hh3]
            show gJ h2 _ _ = _
            rw [lj2 _ _ (by omega) (by omega), lj1 _ _ (by omega)]
          refine ⟨⟨le_ok this.1.1 Eu, le_lnd this.1.1 Eu (LndR_k this.1.2 (fun y j hy => cu y j (by omega)))⟩, StdOK_c (le_std this.1.1 Eu this.2.1) (fun l hl => eI _ (by omega)), StdR_c (StdR_k this.2.2 (fun y j hy => cu y j (by omega)) cuj) (fun l hl => eI _ (by omega))⟩
    · obtain ⟨q1, q2, q3, q4⟩ := J
      unfold M_image_L20
      have e2 : (1092 : Int32) * (nI i + 1) + nI j = nI (1092 * (i + 1) + j) := by
        show nI 1092 * (nI i + 1) + nI j = _
        rw [nI_1, pk_mul, nI_add]
      rw [e2]
      refine pk_le 1092 j (fun q => absurd q (by omega)) (fun _ => ⟨pk_in j 3276 (by omega), pk_in (1092 * (i + 1) + j) 3276 (by omega), ?_⟩)
      rw [cl j, cl (1092 * (i + 1) + j)]
      rintro _ rfl _ rfl
      rw [nI_1]
      refine hk _ ⟨fun o l a => by rw [sI_o a]; exact q1 o l a, q2, fun l hl => by rw [sI_k (by omega)]; exact q3 l hl, fun l hl => ?_⟩
      by_cases e : l = j
      · subst e; rw [sI_s]; exact q3 l (by omega)
      · rw [sI_k (by omega)]; exact q4 l (by omega)
  · refine sim_q I k (-2) (fun Q hQ => ?_) (fun h1 Q I1 eR f1 hQ => ?_)
    · unfold C_image
      exact c_imageN hx (brT' rfl (hQ h (Fp.rf _ h)))
    · unfold M_image
      rintro _ rfl
      refine m_inN ?_ (brT' rfl (hQ _ FpThr))
      rw [i_l]
      have : ¬ (0 ≤ x.toInt ∧ x.toInt < ((2 : Nat) : Int)) := fun e => hx ((exN (n := 2) (by omega)).mpr e)
      omega
theorem sim_restore {B : Int} {x : Int32} : Sim B B (C_restore x) (M_restore x) := by
  intro h K I k
  obtain ⟨O, L⟩ := I.1
  obtain ⟨sO, sR⟩ : iStd B h := I.2.1
  have m0 : (0 : Int64).toInt = 0 := rfl
  have m1 : (1 : Int64).toInt = 1 := rfl
  by_cases hx : ∃ i, i < 2 ∧ x = nI i
  · obtain ⟨i, hi, rfl⟩ := hx
    obtain ⟨r1, r2, r3, r4⟩ := rf55 i hi
    obtain ⟨⟨b, b1, b2, b3⟩, g2⟩ : iImg B h := I.2.2.2.1
    by_cases hb : b.testBit i = true
    · have hb' := (b3 i hi).mp hb
      obtain ⟨⟨gO, gL⟩, gS, gR'⟩ := g2 i hi hb'
      unfold C_restore
      refine c_image hi (brF' (by decide) ?_)
      rw [b2, z_bit0 (by omega) (by omega)]
      refine brF' (by rw [hb]; decide) ⟨pk_in i 2 hi, ?_⟩
      rw [cl i, r1, r2]
      refine c_lcopy rf14 r4 (by omega) gO.2.1.1 (LndI_O.mp gL) (fun h1 f1 R1 => ⟨pk_in i 2 hi, ?_⟩)
      have lo1 : ∀ o j, o < 14 ∨ 19 < o → gI h1 o j = gI h o j := fun o j q => f1.1 o j (by simp [oL]; omega)
      have lj1 : ∀ o j, o < 14 ∨ 19 < o → gJ h1 o j = gJ h o j := fun o j q => f1.2 o j (by simp [oL]; omega)
      refine c_copy (StdR_k gR' (h1 := h1) (fun y j hy => lo1 y j (by omega)) (lj1 _ 1 (by omega))) rfS.1 r3 (by omega) (by omega) (by omega) (by omega) (by omega) (fun h2 f2 R2 => ?_)
      have lo2 : ∀ o j, o ≠ 20 → o ≠ 21 → gI h2 o j = gI h1 o j := fun o j a b => f2.1 o j (by simp [oP, a, b])
      have lj2 : ∀ o j, o ≠ 20 → o ≠ 21 → gJ h2 o j = gJ h1 o j := fun o j a b => f2.2 o j (by simp [oP, a, b])
      unfold Past_forget Game_forget
      rintro h3 hh3 h4 hh4
      have lo4 : ∀ o j, ¬ (14 ≤ o ∧ o ≤ 21) → ¬ (o = 24 ∧ j = 2) → ¬ (o = 80 ∧ j = 0) → gI h4 o j = gI h o j := fun o j a b c => by
        rw [hh4, gI_sI, if_neg c, hh3, gI_sI, if_neg b, lo2 _ _ (by omega) (by omega), lo1 _ _ (by omega)]
      have lj4 : ∀ o j, ¬ (14 ≤ o ∧ o ≤ 21) → gJ h4 o j = gJ h o j := fun o j a => by
        rw [hh4, hh3]
        show gJ h2 o j = _
        rw [lj2 _ _ (by omega) (by omega), lj1 _ _ (by omega)]
      have R4 : LndO h4 14 (rowI h i) := LndR_k R1 (fun y j hy => by rw [hh4, sI_o (by omega), hh3, sI_o (by omega)]; exact lo2 y j (by omega) (by omega))
      have S4 : StdR h4 20 21 (fun l => rowI h i (58 + l)) := StdR_k R2 (fun y j hy => by rw [hh4, sI_o (by omega), hh3, sI_o (by omega)]) (by rw [hh4, hh3]; rfl)
      have c24 : gI h4 24 2 = 0 := by rw [hh4, sI_o (by decide), hh3, sI_s]
      have c80 : gI h4 80 0 = -1 := by rw [hh4, sI_s]
      unfold M_restore
      rintro _ rfl
      refine m_inY (by rw [i_l, nI_toInt (by omega)]; omega) (by rw [i_l, nI_toInt (by omega)]; omega) (brF' (by decide) ⟨pk_in i 2 hi, ?_⟩)
      rw [cl i, sI_o (by decide), lo4 100 i (by omega) (by omega) (by omega)]
      refine brF' hb' ?_
      have e99 : ∀ j, gI (sI h4 98 0 0) 99 j = gI h 99 j := fun j => by rw [sI_o (by decide)]; exact lo4 99 j (by omega) (by omega) (by omega)
      refine pk_loop (σ := Hp) (fun n j h5 => M_restore_L32 (nI i) _ n (nI j) h5) (fun j h5 => (∀ o l, o ≠ 99 → gI h5 o l = gI (sI h4 98 0 0) o l) ∧ (∀ o l, gJ h5 o l = gJ h4 o l) ∧ (∀ l, 1092 ≤ l → gI h5 99 l = gI h 99 l) ∧ ∀ l, l < j → gI h5 99 l = rowI h i l) 1092 0 _ (by omega) ⟨fun _ _ _ => rfl, fun _ _ => rfl, fun l _ => e99 l, fun l hl => absurd hl (by omega)⟩ (fun n h5 J => ?_) (fun n j h5 hj J hk => ?_)
      · obtain ⟨q1, q2, q3, q4⟩ := J
        unfold M_restore_L32
        refine pk_le 1092 1092 (fun _ => ?_) (fun q => absurd q (by omega))
        rintro _ rfl
        refine simEnd (k _ ?_)
        have w1 : ∀ o l, ¬ (14 ≤ o ∧ o ≤ 21) → ¬ (o = 24 ∧ l = 2) → ¬ (o = 80 ∧ l = 0) → ¬ (o = 98 ∧ l = 0) → o ≠ 99 → gI (sI h5 99 70 0) o l = gI h o l := fun o l a b c d e => by
          rw [sI_o e, q1 o l e, gI_sI, if_neg d]; exact lo4 o l a b c
        have w1' : ∀ o l, o ≠ 98 → o ≠ 99 → gI (sI h5 99 70 0) o l = gI h4 o l := fun o l d e => by
          rw [sI_o e, q1 o l e, sI_o d]
        have w2 : ∀ o l, ¬ (14 ≤ o ∧ o ≤ 21) → gJ (sI h5 99 70 0) o l = gJ h o l := fun o l b => (q2 o l).trans (lj4 o l b)
        have E : LSame (rowI h i) (rowM (sI h5 99 70 0)) := fun l hl hn => by
          show gI (sI h5 99 70 0) 99 l = _
          rw [sI_k (by omega)]; exact q4 l hl
        have eS : ∀ l, l < 12 → stdM (sI h5 99 70 0) l = (fun l => rowI h i (58 + l)) l := fun l hl => by
          show gI (sI h5 99 70 0) 99 (58 + l) = _
          rw [sI_k (by omega)]; exact q4 _ (by omega)
        obtain ⟨i1, i2, i3, i4, i5, i6, i7, i8, i9⟩ := I
        obtain ⟨m, nx, p1, p2, p3, p4, p5, p6⟩ := i3
        refine ⟨⟨le_ok gO E, le_lnd gO E (LndR_k R4 (fun y j hy => w1' y j (by omega) (by omega)))⟩, ⟨StdOK_c (le_std gO E gS) eS, StdR_c (StdR_k S4 (fun y j hy => w1' y j (by omega) (by omega)) (q2 20 1)) eS⟩, ⟨0, nx, by omega, p2, sI_s _ _ _ _, (w1' 24 2 (by omega) (by omega)).trans c24, (w1 24 1 (by omega) (by omega) (by omega) (by omega) (by omega)).trans p5, fun u hu => absurd hu (by omega)⟩, kImg i4 (fun l hl => by rw [sI_k (by omega)]; exact q3 l hl) (w1 0 15 (by omega) (by omega) (by omega) (by omega) (by omega)) (fun u => w1 100 u (by omega) (by omega) (by omega) (by omega) (by omega)) (fun o j a b => w1 o j (by omega) (by omega) (by omega) (by omega) (by omega)) (fun o j a b => w2 o j (by omega)), kTray i5 (fun t => w1 124 t (by omega) (by omega) (by omega) (by omega) (by omega)) (fun t => w1 125 t (by omega) (by omega) (by omega) (by omega) (by omega)) (fun t => w2 126 t (by omega)) (fun o j a b => w1 o j (by omega) (by omega) (by omega) (by omega) (by omega)) (fun o j a b => w2 o j (by omega)), kTape i6 (w1 0 1 (by omega) (by omega) (by omega) (by omega) (by omega)) (fun j => w1 1 j (by omega) (by omega) (by omega) (by omega) (by omega)) (w1 98 5 (by omega) (by omega) (by omega) (by omega) (by omega)) (fun j => w1 101 j (by omega) (by omega) (by omega) (by omega) (by omega)), kFlt i7 (w1 2 13 (by omega) (by omega) (by omega) (by omega) (by omega)) (w1 2 14 (by omega) (by omega) (by omega) (by omega) (by omega)) (w1 98 13 (by omega) (by omega) (by omega) (by omega) (by omega)) (w1 98 14 (by omega) (by omega) (by omega) (by omega) (by omega)), Or.inl ((w1' 80 0 (by omega) (by omega)).trans c80), (w1 90 0 (by omega) (by omega) (by omega) (by omega) (by omega)).trans i9⟩
      · obtain ⟨q1, q2, q3, q4⟩ := J
        unfold M_restore_L32
        have e2 : (1092 : Int32) * (nI i + 1) + nI j = nI (1092 * (i + 1) + j) := by
          show nI 1092 * (nI i + 1) + nI j = _
          rw [nI_1, pk_mul, nI_add]
        rw [e2]
        refine pk_le 1092 j (fun q => absurd q (by omega)) (fun _ => ⟨pk_in (1092 * (i + 1) + j) 3276 (by omega), pk_in j 3276 (by omega), ?_⟩)
        rw [cl j, cl (1092 * (i + 1) + j)]
        rintro _ rfl _ rfl
        rw [nI_1]
        refine hk _ ⟨fun o l a => by rw [sI_o a]; exact q1 o l a, q2, fun l hl => by rw [sI_k (by omega)]; exact q3 l hl, fun l hl => ?_⟩
        by_cases e : l = j
        · subst e; rw [sI_s]; exact q3 _ (by omega)
        · rw [sI_k (by omega)]; exact q4 l (by omega)
    · have hb' : gI h 100 i = 0 := Classical.byContradiction (fun e => hb ((b3 i hi).mpr e))
      refine sim_q I k (-5) (fun Q hQ => ?_) (fun h1 Q I1 eR f1 hQ => ?_)
      · unfold C_restore
        refine c_image hi (brF' (by decide) ?_)
        rw [b2, z_bit0 (by omega) (by omega)]
        exact brT' (Bool.eq_false_iff.mpr hb) (hQ h (Fp.rf _ h))
      · unfold M_restore
        rintro _ rfl
        refine m_inY (by rw [i_l, nI_toInt (by omega)]; omega) (by rw [i_l, nI_toInt (by omega)]; omega) (brF' (by decide) ⟨pk_in i 2 hi, ?_⟩)
        rw [cl i, sI_o (by decide), f1.1 100 i rfl]
        exact brT' hb' (hQ _ FpThr)
  · refine sim_q I k (-2) (fun Q hQ => ?_) (fun h1 Q I1 eR f1 hQ => ?_)
    · unfold C_restore
      exact c_imageN hx (brT' rfl (hQ h (Fp.rf _ h)))
    · unfold M_restore
      rintro _ rfl
      refine m_inN ?_ (brT' rfl (hQ _ FpThr))
      rw [i_l]
      have : ¬ (0 ≤ x.toInt ∧ x.toInt < ((2 : Nat) : Int)) := fun e => hx ((exN (n := 2) (by omega)).mpr e)
      omega
