/-! judge, perform: both -/
theorem Inv_kj {B : Int} {h h1 : Hp} (I : Inv B h) (F1 : ∀ o k, sc2 o k = false → gI h1 o k = gI h o k) (F2 : ∀ o k, sc2 o k = false → o ≠ 99 → gJ h1 o k = gJ h o k) : Inv B h1 := by
  obtain ⟨⟨l1, l2⟩, ⟨s1, s2⟩, ⟨m, nx, p1, p2, p3, p4, p5, p6⟩, ⟨g1, g2⟩, i5, i6, i7, i8, i9⟩ := I
  have e99 : ∀ k, gI h1 99 k = gI h 99 k := fun k => F1 99 k rfl
  have eR : rowM h1 = rowM h := funext (fun k => e99 k)
  have eS : stdM h1 = stdM h := funext (fun k => e99 _)
  have eG : ∀ i, segM h1 i = segM h i := fun i => funext (fun k => e99 _)
  have eI : ∀ i, rowI h1 i = rowI h i := fun i => funext (fun k => e99 _)
  have elo : ∀ o k, o < 73 → o ≠ 22 → o ≠ 23 → gI h1 o k = gI h o k := fun o k a b c => F1 o k (sc2_lo a b c)
  have elj : ∀ o k, o < 73 → o ≠ 22 → o ≠ 23 → gJ h1 o k = gJ h o k := fun o k a b c => F2 o k (sc2_lo a b c) (by omega)
  refine ⟨⟨by rw [eR]; exact l1, by rw [eR]; exact LndR_k l2 (fun x j hx => elo x j (by omega) (by omega) (by omega))⟩, ⟨by rw [eR, eS]; exact s1, by rw [eS]; exact StdR_k s2 (fun x j hx => elo x j (by omega) (by omega) (by omega)) (elj 20 1 (by omega) (by omega) (by omega))⟩, ⟨m, nx, p1, p2, ?_, ?_, ?_, fun i hi => ?_⟩, ⟨?_, fun i hi hb => ?_⟩, fun t ht => ?_, ?_, ?_, ?_, ?_⟩
  · rw [e99]; exact p3
  · rw [elo 24 2 (by omega) (by omega) (by omega)]; exact p4
  · rw [elo 24 1 (by omega) (by omega) (by omega)]; exact p5
  · rw [eR, eG]
    have := Nat.mod_lt (nx + 10 - m + i) (show 0 < 10 by decide)
    exact ⟨(p6 i hi).1, StdR_k (p6 i hi).2 (fun x j hx => elo x j (by omega) (by omega) (by omega)) (elj _ 1 (by omega) (by omega) (by omega))⟩
  · obtain ⟨b, b1, b2, b3⟩ := g1
    refine ⟨b, b1, by rw [elo 0 15 (by omega) (by omega) (by omega)]; exact b2, fun i hi => ?_⟩
    rw [F1 100 i rfl]; exact b3 i hi
  · rw [F1 100 i rfl] at hb
    have := g2 i hi hb
    rw [eI]
    exact ⟨⟨this.1.1, LndR_k this.1.2 (fun x j hx => elo x j (by omega) (by omega) (by omega))⟩, this.2.1, StdR_k this.2.2 (fun x j hx => elo x j (by omega) (by omega) (by omega)) (elj _ 1 (by omega) (by omega) (by omega))⟩
  · obtain ⟨⟨t1, t2, t3⟩, q, q1, q2, q3⟩ := i5 t ht
    rw [F1 124 t rfl, F1 125 t rfl, elo (47 + 2 * t) 0 (by omega) (by omega) (by omega), elo (47 + 2 * t) 1 (by omega) (by omega) (by omega)]
    refine ⟨⟨t1, t2, t3⟩, q, q1, q2, fun k hk => ?_⟩
    rw [F2 126 _ rfl (by omega), elj (48 + 2 * t) k (by omega) (by omega) (by omega)]
    exact q3 k hk
  · obtain ⟨q, q1, q2, q3, q4⟩ := i6
    refine ⟨q, q1, by rw [elo 0 1 (by omega) (by omega) (by omega)]; exact q2, by rw [F1 98 5 rfl]; exact q3, fun k hk => ?_⟩
    rw [F1 101 k rfl, elo 1 k (by omega) (by omega) (by omega)]
    exact q4 k hk
  · show gI h1 2 13 = gI h1 98 13 ∧ gI h1 2 14 = gI h1 98 14
    rw [elo 2 13 (by omega) (by omega) (by omega), elo 2 14 (by omega) (by omega) (by omega), F1 98 13 rfl, F1 98 14 rfl]
    exact i7
  · have e80 : gI h1 80 0 = gI h 80 0 := F1 80 0 rfl
    rcases i8 with q | ⟨w, w1, w2, val, X1, X0, v1, v2, v3, v4⟩
    · exact Or.inl (e80.trans q)
    · refine Or.inr ⟨w, w1, e80.trans w2, val, X1, X0, by rw [eR]; exact v1, by rw [eR]; exact v2, by rw [eR]; exact v3, fun p hp => ?_⟩
      rw [eR] at hp
      rw [eR, F1 82 p rfl, F1 83 p rfl, F1 84 p rfl, F1 85 p rfl]
      exact v4 p hp
  · exact (F1 90 0 rfl).trans i9
theorem rf46 : ∀ t, t < 4 → rf 46 t = 47 + 2 * t ∧ rf (47 + 2 * t) 2 = 48 + 2 * t := by decide
theorem c_tray {h : Hp} {Q : Int32 → Hp → Prop} {t : Nat} (ht : t < 4) (k : Q 1 h) : C_isTray (nI t) h Q := by
  unfold C_isTray
  exact brF (nI_pos (by omega)) (pk_le 4 t (fun q => absurd q (by omega)) (fun _ => k))
theorem c_trayN {h : Hp} {Q : Int32 → Hp → Prop} {x : Int32} (hx : ¬ ∃ t, t < 4 ∧ x = nI t) (k : Q 0 h) : C_isTray x h Q := by
  unfold C_isTray
  refine ⟨fun _ => k, fun q => ⟨fun _ => k, fun q2 => absurd ?_ hx⟩⟩
  obtain ⟨j, hj, rfl⟩ := nI_of q
  refine ⟨j, ?_, rfl⟩
  have q2 : ¬ nI 4 ≤ nI j := q2
  rw [nI_leI (by omega) hj] at q2
  omega
/-- no tray: -2, none told: -6 -/
theorem m_noTray {h : Hp} {Q : Int32 → Hp → Prop} {x : Int32} (kN : (¬ ∃ t, t < 4 ∧ x = nI t) → Q (-2) h) (kM : ∀ t, t < 4 → x = nI t → gI h 124 t = -1 → Q (-6) h) (kY : ∀ t, t < 4 → x = nI t → ¬ gI h 124 t = -1 → Q 0 h) : M_noTray x h Q := by
  unfold M_noTray
  refine m_in (fun q1 q2 => brF' (by decide) ?_) (fun q => brT' rfl (kN (fun e => q ?_)))
  · have l0 : (0 : Int64).toInt = 0 := rfl
    have l3 : (3 : Int64).toInt = 3 := rfl
    have ex : x = nI x.toInt.toNat := nI_i x (by omega)
    have ht : x.toInt.toNat < 4 := by omega
    rw [ex]
    refine ⟨pk_in _ 4 ht, ?_⟩
    rw [cl x.toInt.toNat]
    exact ⟨fun q => kY _ ht ex q, fun q => kM _ ht ex q⟩
  · obtain ⟨t, ht, rfl⟩ := e
    rw [nI_toInt (by omega)]
    have l0 : (0 : Int64).toInt = 0 := rfl
    have l3 : (3 : Int64).toInt = 3 := rfl
    omega
theorem bdec {o : Nat} (h : o < 73) (h1 : o ≠ 22) (h2 : o ≠ 23) : scD o = fun _ => false := by
  funext k
  have := sc2_lo (k := k) h h1 h2
  exact scD_2 o k this
theorem oP22 (o k : Nat) (h : scD o k = false) : oP 22 23 o k = false := by
  simp only [scD, scC, oP, Bool.and_eq_false_iff, Bool.or_eq_false_iff] at h ⊢
  rcases h with h | h
  · exact ⟨h.1.1.1, h.1.1.2⟩
  · have : (o == 90) = true := by
      revert h
      cases (o == 90) <;> simp
    rw [beq_iff_eq] at this
    subst this
    decide
theorem scD_hi {o k : Nat} (h : 98 ≤ o) : scD o k = false := by
  have := scA_hi (k := k) h
  simp only [scA, Bool.or_eq_false_iff] at this
  exact this.1
/-- the reference goes through a tray and puts all back -/
theorem m_judged {h1 : Hp} {a s : Row} {B : Int} {t m : Nat} {f : Nat → Int} {R : Int32 → Int32 → Int32 → Hp → Prop} (O : LandOK a) (h0 : 0 ≤ B) (hB : B + 10000 < 2 ^ 31) (E : LSame a (rowM h1)) (hs : ∀ k, k < 12 → gI h1 99 (58 + k) = s k) (sO : StdOK a s B) (ht : t < 4) (hm : m ≤ 40) (em : gI h1 125 t = nI m) (ef : ∀ j, j < m → (gJ h1 126 (40 * t + j)).toInt = f j) (k : ∀ h2, (∀ o j, scM o j = false → gI h2 o j = gI h1 o j) → (∀ o j, scM o j = false → o ≠ 99 → gJ h2 o j = gJ h1 o j) → gI h2 98 22 = (rnD a f m 0 s).2.1 → R ((rnD a f m 0 s).2.2 0) ((rnD a f m 0 s).2.2 1) (nI (rnD a f m 0 s).1) h2) : M_stores h1 (fun h6 => M_tells (nI t) h6 (fun r7 h8 => ∀ v9 : Int32, v9 = (gI h8 99 58) → ∀ v10 : Int32, v10 = (gI h8 99 59) → M_isAgain h8 (fun h11 => R v9 v10 r7 h11))) := by
  refine m_stores (fun h2 f2 s2 => ?_)
  unfold M_tells
  rintro _ rfl
  have E2 : LSame a (rowM (sI h2 98 22 0)) := fun j hj hn => by
    show gI _ 99 j = _
    rw [sI_o (by decide), f2.1 99 j rfl]; exact E j hj hn
  refine ⟨m + 1, m_tells (f := f) O ht hm ?_ ?_ E2 m 0 s B (sI h2 98 22 0) (by omega) h0 (by omega) (Fp.rf _ _) (sI_s _ _ _ _) (fun j hj => ?_) sO (fun h3 F3 g1 g2 => ?_)⟩
  · rw [sI_o (by decide), f2.1 125 t rfl]; exact em
  · intro j hj
    show (gJ h2 126 _).toInt = _
    rw [f2.2 126 _ rfl]; exact ef j hj
  · rw [sI_o (by decide), f2.1 99 _ rfl]; exact hs j hj
  · rintro v hv v' hv'
    rw [show v = _ from hv.trans (g2 0 (by omega)), show v' = _ from hv'.trans (g2 1 (by omega))]
    refine m_isAgain (fun h4 f4 s4 => ?_)
    have base : ∀ o j, scM o j = false → ¬ (o = 99 ∧ 58 ≤ j ∧ j < 70) → gI h4 o j = gI h1 o j ∧ gJ h4 o j = gJ h1 o j := by
      intro o j q hn
      have hb : (o == 99 && (decide (58 ≤ j) && decide (j < 70))) = false := by
        simp only [Bool.and_eq_false_iff, beq_eq_false_iff_ne, decide_eq_false_iff_not]
        omega
      have qB : oB o j = false := by simp only [oB, q, hb, Bool.or_false]
      have qY := oY_B o j qB
      have q9 := o109_B o j qB
      have n98 : ¬ (o = 98 ∧ j = 22) := by
        rintro ⟨rfl, rfl⟩
        exact absurd q (by decide)
      constructor
      · rw [f4.1 o j hb, F3.1 o j qY]
        rw [gI_sI, if_neg n98]
        exact f2.1 o j q9
      · rw [f4.2 o j hb, F3.2 o j qY]
        exact f2.2 o j q9
    refine k h4 (fun o j q => ?_) (fun o j q n99 => (base o j q (by omega)).2) ?_
    · by_cases c : o = 99 ∧ 58 ≤ j ∧ j < 70
      · obtain ⟨rfl, c1, c2⟩ := c
        have := s4 (j - 58) (by omega)
        rw [show 58 + (j - 58) = j by omega] at this
        rw [this, F3.1 109 _ rfl, sI_o (by decide), s2 _ (by omega), show 58 + (j - 58) = j by omega]
      · exact (base o j q c).1
    · rw [f4.1 98 22 rfl]; exact g1
theorem add_mil {x : Int32} (h : -2146000000 ≤ x.toInt ∧ x.toInt ≤ 2146000000) : (x.toInt64 + 1000000).toInt32 = x + 1000000 := by
  apply Int32.toInt_inj.mp
  have l : (1000000 : Int64).toInt = 1000000 := rfl
  have l' : (1000000 : Int32).toInt = 1000000 := by decide
  have e2 : (x.toInt64 + 1000000).toInt = x.toInt + 1000000 := by rw [l_add (by rw [i_l, l]; omega), i_l, l]
  rw [l_i (by rw [e2]; omega), e2, i_add (by rw [l']; omega), l']
theorem sim_judge {B : Int} {x y : Int32} (h0 : 0 ≤ B) (hB : B + 2000000 < 2 ^ 31) : Sim B B (C_judge x y) (M_judge x y) := by
  intro h K I k
  obtain ⟨O, L⟩ := I.1
  obtain ⟨sO, sR⟩ : iStd B h := I.2.1
  have T : iTray h := I.2.2.2.2.1
  have l0 : (0 : Int32).toInt = 0 := by decide
  have l3 : (3 : Int32).toInt = 3 := by decide
  have m0 : (0 : Int64).toInt = 0 := rfl
  have m3 : (3 : Int64).toInt = 3 := rfl
  by_cases hx : ∃ t, t < 4 ∧ x = nI t
  · by_cases hy : 0 ≤ y.toInt ∧ y.toInt ≤ 3
    · obtain ⟨t, ht, rfl⟩ := hx
      obtain ⟨⟨t1, t2, t3⟩, m, hm, em, ej⟩ := T t ht
      obtain ⟨r1, r2⟩ := rf46 t ht
      by_cases hs : gI h 124 t = -1
      · refine sim_q I k (-6) (fun Q hQ => ?_) (fun h1 Q I1 eR f1 hQ => ?_)
        · unfold C_judge
          refine c_tray ht (brF (by decide) (brF (by rw [i_lt]; omega) (brT (by rw [i_le]; omega) ⟨pk_in t 4 ht, ?_⟩)))
          rw [cl t, r1]
          unfold Tray_isMissing
          rw [← t1]
          exact brT' hs (brF (by decide) (hQ h (Fp.rf _ h)))
        · unfold M_judge
          rintro _ rfl
          refine m_inY (by rw [i_l]; omega) (by rw [i_l]; omega) (brF' (by decide) ?_)
          refine m_noTray (fun q => absurd ⟨t, ht, rfl⟩ q) (fun t' _ et _ => brF (by decide) (hQ _ FpThr)) (fun t' ht' et hn => ?_)
          rw [nI_eq (by omega) (by omega)] at et
          subst et
          rw [sI_o (by decide), f1.1 124 t rfl] at hn
          exact absurd hs hn
      · -- the tray is told
        let f : Nat → Int := fun j => (gJ h 126 (40 * t + j)).toInt
        generalize hr : rnD (rowM h) f m 0 (stdM h) = r
        have rle := rnD_le (a := rowM h) (f := f) (k := m) (i := 0) (s := stdM h)
        have rok := rnD_ok (f := f) (k := m) (i := 0) O h0 sO (by omega)
        rw [hr] at rle rok
        unfold C_judge
        refine c_tray ht (brF (by decide) (brF (by rw [i_lt]; omega) (brT (by rw [i_le]; omega) ⟨pk_in t 4 ht, ?_⟩)))
        rw [cl t, r1]
        unfold Tray_isMissing
        rw [← t1]
        refine brF' hs (brT rfl ?_)
        refine c_copy sR rfS.2 rfS.1 (by decide) (by decide) (by decide) (by decide) (by decide) (fun h1 f1 R1 => ?_)
        have lo : ∀ o j, o < 73 → o ≠ 22 → o ≠ 23 → gI h1 o j = gI h o j := fun o j _ a b => f1.1 o j (by simp [oP, a, b])
        have loj : ∀ o j, o ≠ 22 → o ≠ 23 → gJ h1 o j = gJ h o j := fun o j a b => f1.2 o j (by simp [oP, a, b])
        unfold Stand_doAll
        refine ⟨m + 1, c_doAll (f := f) O (Or.inr rfl) rfl hm ?_ (by omega) (by rw [r2]; omega) (fun j hj => ?_) m 0 (stdM h) B h1 (by omega) h0 (by omega) (Fp.rf _ h1) (I.lnd (fun o j a b => lo o j (by omega) (by omega) (by omega))) R1 sO (fun h2 F2 L2 R2 => ?_)⟩
        · rw [lo _ _ (by omega) (by omega) (by omega), ← t2]; exact em
        · rw [loj _ _ (by omega) (by omega)]
          show (gJ h (47 + 2 * t + 1) j).toInt = (gJ h 126 (40 * t + j)).toInt
          rw [ej j hj, show 47 + 2 * t + 1 = 48 + 2 * t by omega]
        · rw [hr] at R2 ⊢
          have FD : Fp scD h h2 := (f1.mo oP22).tr (F2.mo oP22)
          have I2 := Inv_k I (FD.mo scD_2)
          have e1 : gI h2 (47 + 2 * t) 1 = nI m := by rw [FD.1 _ _ (by rw [bdec (by omega) (by omega) (by omega)]), ← t2]; exact em
          -- the reference
          have mside : ∀ (h3 : Hp) (K2 : Int32 → Hp → Prop), Fp scD h h3 → (∀ h4, Inv B h4 → K2 (if y = 0 then (if r.2.1 = 0 then -1 else nI r.1) else if y = 1 then r.2.1 else if y = 2 then r.2.2 0 else r.2.2 1 + 1000000) h4) → M_judge (nI t) y h3 K2 := by
            intro h3 K2 F3 hK
            have I3 := Inv_k I (F3.mo scD_2)
            unfold M_judge
            rintro _ rfl
            refine m_inY (by rw [i_l]; omega) (by rw [i_l]; omega) (brF' (by decide) ?_)
            refine m_noTray (fun q => absurd ⟨t, ht, rfl⟩ q) (fun t' ht' et hn => ?_) (fun t' ht' et hn => ?_)
            · rw [nI_eq (by omega) (by omega)] at et
              subst et
              rw [sI_o (by decide), F3.1 124 t rfl] at hn
              exact absurd hn hs
            · refine brT rfl ?_
              have e99 : ∀ j, gI (sI h3 98 0 0) 99 j = gI h 99 j := fun j => by rw [sI_o (by decide)]; exact F3.1 99 j (scD_hi (by omega))
              refine m_judged (a := rowM h) (s := stdM h) (f := f) (m := m) O h0 (by omega) (fun j _ _ => e99 j) (fun j _ => e99 _) sO ht hm ?_ (fun j hj => ?_) (fun h4 g1 g2 g3 => ?_)
              · rw [sI_o (by decide), F3.1 125 t rfl]; exact em
              · show (gJ h3 126 _).toInt = _
                rw [F3.2 126 _ rfl]
              · rw [hr] at g3 ⊢
                have I4 : Inv B h4 := Inv_kj I3 (fun o j q => (g1 o j (scM_2 o j q)).trans (by
                    rw [gI_sI, if_neg]
                    rintro ⟨rfl, rfl⟩
                    exact absurd q (by decide))) (fun o j q n => g2 o j (scM_2 o j q) n)
                have := hK h4 I4
                rw [g3]
                refine ⟨fun q => ⟨fun q1 => ⟨fun q2 => ?_, fun q2 => ?_⟩, fun q1 => ?_⟩, fun q => ⟨fun q1 => ?_, fun q1 => ?_⟩⟩
                · rw [if_neg q, if_neg q1, if_neg q2] at this; exact this
                · rw [if_neg q, if_neg q1, if_pos q2] at this; exact this
                · rw [if_neg q, if_pos q1] at this; exact this
                · rw [if_pos q, if_neg q1] at this; exact this
                · rw [if_pos q, if_pos q1] at this; exact this
          have fin : ∀ (h3 : Hp) (v : Int32), Fp scD h h3 → v = (if y = 0 then (if r.2.1 = 0 then -1 else nI r.1) else if y = 1 then r.2.1 else if y = 2 then r.2.2 0 else r.2.2 1 + 1000000) → M_judge (nI t) y h3 (fun r2 h2 => (v = r2 → K h2) ∧ (¬ v = r2 → False)) := by
            intro h3 v F3 hv
            refine mside h3 _ F3 (fun h4 I4 => ?_)
            rw [← hv]
            exact simEnd (k h4 I4)
          refine ⟨fun y2 => ⟨fun y3 => ?_, fun y3 => ?_⟩, fun y2 => ?_⟩
          · rintro J rfl
            have hall : r.1 < m ↔ r.2.1 ≠ 0 := by have := rle.2.2.1; rw [Nat.zero_add] at this; exact this
            have rm : r.1 ≤ m := by have := rle.2.1; omega
            rw [e1]
            refine pk_lt r.1 m (fun q => ?_) (fun q => ?_)
            · have hn := hall.mp q
              refine ⟨fun y0 => ⟨fun _ => ?_, fun e => absurd rfl e⟩, fun y0 => ⟨fun _ => fin h2 _ FD (by rw [if_pos y0, if_neg hn]), fun e => absurd rfl e⟩⟩
              have y1 : y = 1 := i_eq.mpr (by
                have a1 : ¬ y.toInt = 0 := fun e => y0 (i_eq.mpr (e.trans l0.symm))
                have a2 : ¬ y.toInt = 2 := fun e => y2 (i_eq.mpr (e.trans (by decide)))
                have a3 : ¬ y.toInt = 3 := fun e => y3 (i_eq.mpr (e.trans l3.symm))
                have : (1 : Int32).toInt = 1 := by decide
                omega)
              unfold Tray_number
              refine brF (nI_pos (by omega)) (pk_le 40 r.1 (fun q => absurd q (by omega)) (fun _ => ⟨pk_in r.1 40 (by omega), ?_⟩))
              rw [cl r.1, r2, FD.2 (48 + 2 * t) r.1 (by rw [bdec (by omega) (by omega) (by omega)]), ← ej r.1 q]
              refine c_tryDeed L2 O R2 (Or.inr rfl) rfl rok (by omega) (fun h3 f3 L3 R3 => ?_)
              refine fin h3 _ (FD.tr (f3.mo oP22)) ?_
              rw [if_neg y0, if_pos y1]
              exact (rle.2.2.2.1 (by omega)).symm
            · have hz : r.2.1 = 0 := Classical.byContradiction (fun e => absurd (hall.mpr e) (by omega))
              refine ⟨fun y0 => ⟨fun e => absurd e (by decide), fun _ => fin h2 _ FD ?_⟩, fun y0 => ⟨fun e => absurd e (by decide), fun _ => fin h2 _ FD (by rw [if_pos y0, if_pos hz])⟩⟩
              have y1 : y = 1 := i_eq.mpr (by
                have a1 : ¬ y.toInt = 0 := fun e => y0 (i_eq.mpr (e.trans l0.symm))
                have a2 : ¬ y.toInt = 2 := fun e => y2 (i_eq.mpr (e.trans (by decide)))
                have a3 : ¬ y.toInt = 3 := fun e => y3 (i_eq.mpr (e.trans l3.symm))
                have : (1 : Int32).toInt = 1 := by decide
                omega)
              rw [if_neg y0, if_pos y1, hz]
          · subst y3
            refine fin h2 _ FD ?_
            rw [if_neg (by decide), if_neg (by decide), if_neg (by decide), R2.2.1]
            have b1 := rok.2.2.2
            have b2 : (m : Int) ≤ 40 := by omega
            have b3 : B + 99 * (m : Int) ≤ B + 3960 := by omega
            clear rle rok ej em e1
            exact add_mil (by omega)
          · subst y2
            refine fin h2 _ FD ?_
            rw [if_neg (by decide), if_neg (by decide), if_pos rfl, R2.1]
    · refine sim_q I k (-2) (fun Q hQ => ?_) (fun h1 Q I1 eR f1 hQ => ?_)
      · obtain ⟨t, ht, rfl⟩ := hx
        have := hQ h (Fp.rf _ h)
        unfold C_judge
        refine c_tray ht (brF (by decide) ⟨fun _ => this, fun q => ⟨fun q2 => ?_, fun _ => this⟩⟩)
        rw [i_lt] at q
        rw [i_le] at q2
        exact absurd ⟨by omega, by omega⟩ hy
      · unfold M_judge
        rintro _ rfl
        exact m_inN (by rw [i_l]; omega) (brT' rfl (hQ _ FpThr))
  · refine sim_q I k (-2) (fun Q hQ => ?_) (fun h1 Q I1 eR f1 hQ => ?_)
    · unfold C_judge
      exact c_trayN hx (brT rfl (hQ h (Fp.rf _ h)))
    · unfold M_judge
      rintro _ rfl
      have := hQ _ FpThr
      refine m_in (fun _ _ => brF' (by decide) ?_) (fun _ => brT' rfl this)
      exact m_noTray (fun _ => brF (by decide) this) (fun t ht e _ => absurd ⟨t, ht, e⟩ hx) (fun t ht e _ => absurd ⟨t, ht, e⟩ hx)
