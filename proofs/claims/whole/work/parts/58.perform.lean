/-! perform, journey -/
theorem oP20_A (o k : Nat) (h : scA o k = false) : oP 20 21 o k = false := by
  simp only [scA, Bool.or_eq_false_iff] at h
  simp only [oP, Bool.or_eq_false_iff]
  exact h.2.1
theorem scD_A (o k : Nat) (h : scA o k = false) : scD o k = false := by simp only [scA, Bool.or_eq_false_iff] at h; exact h.1
theorem sim_perform {B : Int} {x : Int32} (h0 : 0 ≤ B) (hB : B + 10000 < 2 ^ 31) : Sim B (B + 3960) (C_perform x) (M_perform x) := by
  intro h K I k
  obtain ⟨O, L⟩ := I.1
  obtain ⟨sO, sR⟩ : iStd B h := I.2.1
  obtain ⟨pm, nx, pC, pM, pO⟩ := iPast_to I.2.2.1
  have T : iTray h := I.2.2.2.2.1
  by_cases hx : ∃ t, t < 4 ∧ x = nI t
  · obtain ⟨t, ht, rfl⟩ := hx
    obtain ⟨⟨t1, t2, t3⟩, m, hm, em, ej⟩ := T t ht
    obtain ⟨r1, r2⟩ := rf46 t ht
    by_cases hs : gI h 124 t = -1
    · refine sim_q I (fun h2 I2 => k h2 (Inv_B I2 (by omega))) (-6) (fun Q hQ => ?_) (fun h1 Q I1 eR f1 hQ => ?_)
      · unfold C_perform
        refine c_tray ht (brF' (by decide) ⟨pk_in t 4 ht, ?_⟩)
        rw [cl t, r1]
        unfold Tray_isMissing
        rw [← t1]
        exact brT' hs (brF (by decide) (hQ h (Fp.rf _ h)))
      · unfold M_perform
        rintro _ rfl
        refine m_noTray (fun q => absurd ⟨t, ht, rfl⟩ q) (fun t' _ et _ => brF (by decide) (hQ _ FpThr)) (fun t' ht' et hn => ?_)
        rw [nI_eq (by omega) (by omega)] at et
        subst et
        rw [sI_o (by decide), f1.1 124 t rfl] at hn
        exact absurd hs hn
    · let f : Nat → Int := fun j => (gJ h 126 (40 * t + j)).toInt
      generalize hr : rnD (rowM h) f m 0 (stdM h) = r
      have rle := rnD_le (a := rowM h) (f := f) (k := m) (i := 0) (s := stdM h)
      have rok := rnD_ok (f := f) (k := m) (i := 0) O h0 sO (by omega)
      rw [hr] at rle rok
      have rm : r.1 ≤ m := by have := rle.2.1; omega
      have rok' : StdOK (rowM h) r.2.2 (B + 3960) := StdOK_B rok (by omega)
      unfold C_perform
      refine c_tray ht (brF' (by decide) ⟨pk_in t 4 ht, ?_⟩)
      rw [cl t, r1]
      unfold Tray_isMissing
      rw [← t1]
      refine brF' hs (brT rfl ?_)
      refine c_copy sR rfS.2 rfS.1 (by decide) (by decide) (by decide) (by decide) (by decide) (fun h1 f1 R1 => ?_)
      have lo : ∀ o j, o ≠ 22 → o ≠ 23 → gI h1 o j = gI h o j := fun o j a b => f1.1 o j (by simp [oP, a, b])
      have loj : ∀ o j, o ≠ 22 → o ≠ 23 → gJ h1 o j = gJ h o j := fun o j a b => f1.2 o j (by simp [oP, a, b])
      unfold Stand_doAll
      refine ⟨m + 1, c_doAll (f := f) O (Or.inl rfl) rfl hm ?_ (by omega) (by rw [r2]; omega) (fun j hj => ?_) m 0 (stdM h) B h1 (by omega) h0 (by omega) (Fp.rf _ h1) (I.lnd (fun o j a b => lo o j (by omega) (by omega))) (StdR_k sR (fun y j hy => lo y j (by omega) (by omega)) (loj 20 1 (by omega) (by omega))) sO (fun h2 F2 L2 R2 => ?_)⟩
      · rw [lo _ _ (by omega) (by omega), ← t2]; exact em
      · rw [loj _ _ (by omega) (by omega)]
        show (gJ h (47 + 2 * t + 1) j).toInt = (gJ h 126 (40 * t + j)).toInt
        rw [ej j hj, show 47 + 2 * t + 1 = 48 + 2 * t by omega]
      · rw [hr] at R2 ⊢
        have FA : Fp scA h h2 := (f1.mo (fun o j q => oP22 o j (scD_A o j q))).tr (F2.mo oP20_A)
        have mside : ∀ (h3 : Hp) (K2 : Int32 → Hp → Prop), Fp scA h h3 → (∀ h4, (∀ o j, oB o j = false → gI h4 o j = gI h3 o j) → (∀ o j, oB o j = false → gJ h4 o j = gJ h3 o j) → (∀ j, j < 12 → gI h4 109 j = stdM h j) → (∀ j, j < 12 → gI h4 99 (58 + j) = r.2.2 j) → (nI r.1 ≤ 0 → K2 (nI r.1) h4) ∧ (¬ nI r.1 ≤ 0 → M_notes h4 (fun h7 => K2 (nI r.1) h7))) → M_perform (nI t) h3 K2 := by
          intro h3 K2 F3 hK
          unfold M_perform
          rintro _ rfl
          refine m_noTray (fun q => absurd ⟨t, ht, rfl⟩ q) (fun t' ht' et hn => ?_) (fun t' ht' et hn => ?_)
          · rw [nI_eq (by omega) (by omega)] at et
            subst et
            rw [sI_o (by decide), F3.1 124 t (scA_hi (by omega))] at hn
            exact absurd hn hs
          · refine brT rfl ?_
            have e99 : ∀ j, gI (sI h3 98 0 0) 99 j = gI h 99 j := fun j => by rw [sI_o (by decide)]; exact F3.1 99 j (scA_hi (by omega))
            refine m_stores (fun h4 f4 s4 => ?_)
            unfold M_tells
            rintro _ rfl
            refine ⟨m + 1, m_tells (f := f) O ht hm ?_ (fun j hj => ?_) (fun j hj hn => ?_) m 0 (stdM h) B (sI h4 98 22 0) (by omega) h0 (by omega) (Fp.rf _ _) (sI_s _ _ _ _) (fun j hj => ?_) sO (fun h5 F5 g1 g2 => ?_)⟩
            · rw [sI_o (by decide), f4.1 125 t rfl, sI_o (by decide), F3.1 125 t (scA_hi (by omega))]; exact em
            · show (gJ h4 126 _).toInt = _
              rw [f4.2 126 _ rfl]
              show (gJ h3 126 _).toInt = _
              rw [F3.2 126 _ (scA_hi (by omega))]
            · show gI _ 99 j = _
              rw [sI_o (by decide), f4.1 99 j rfl]; exact e99 j
            · rw [sI_o (by decide), f4.1 99 _ rfl]; exact e99 _
            · rw [hr] at g2 ⊢
              have F5' : Fp oB h3 h5 := (((FpThr.mo scM_B).tr (f4.mo o109_B)).sI rfl).tr (F5.mo oY_B)
              refine hK h5 F5'.1 F5'.2 (fun j hj => ?_) g2
              rw [F5.1 109 j rfl, sI_o (by decide), s4 j hj]; exact e99 _
        have PC2 : PastC h2 pm nx (segM h) := PastC_k pC (fun o j a b => by
            rw [F2.1 o j (by simp [oP]; omega)]; exact lo o j (by omega) (by omega)) (fun o j a b => by
            rw [F2.2 o j (by simp [oP]; omega)]; exact loj o j (by omega) (by omega))
        refine pk_le r.1 0 (fun q => ?_) (fun q => ?_)
        · have q0 : r.1 = 0 := by omega
          refine mside h2 _ FA (fun h4 g1 g2 g3 g4 => ⟨fun _ => ?_, fun e => absurd (nI_le (a := r.1) (b := 0) (by omega) (by decide)) e⟩)
          refine simEnd (k h4 ?_)
          have F4 : Fp oB h2 h4 := ⟨g1, g2⟩
          refine inv_deed (C := B + 3960) I (by omega) ((FA.mo scA_X).tr (F4.mo oB_X)) (s := r.2.2) (m := pm) (nx := nx) (D := segM h) ?_ g4 rok' ?_ ?_ (fun i hi => StdOK_B (pO i hi) (by omega))
          · exact StdR_k R2 (fun y j hy => g1 y j (oB_lo (by omega))) (g2 20 1 (oB_lo (by omega)))
          · exact PastC_k PC2 (fun o j a b => g1 o j (oB_lo (by omega))) (fun o j a b => g2 o j (oB_lo (by omega)))
          · have e99 : ∀ j, 70 ≤ j → gI h4 99 j = gI h 99 j := fun j hj => by
              rw [g1 99 j (by
                have : (decide (58 ≤ j) && decide (j < 70)) = false := by simp; omega
                simp only [oB, this, Bool.and_false, Bool.or_false]; rfl)]
              exact FA.1 99 j (scA_hi (by omega))
            exact ⟨(e99 70 (by omega)).trans pM.1, fun i hi j hj => (e99 _ (by omega)).trans (pM.2 i hi j hj)⟩
        · have R22 : StdR h2 22 23 (stdM h) := StdR_k R1 (fun y j hy => F2.1 y j (by simp [oP]; omega)) (F2.2 22 1 (by simp [oP]))
          refine c_keep R22 rfS.2 (by omega) (by omega) PC2 (fun h3 f3 pC3 => ?_)
          have FA3 : Fp scA h h3 := FA.tr (f3.mo oK_A)
          refine mside h3 _ FA3 (fun h4 g1 g2 g3 g4 => ⟨fun e => absurd e (nI_nle (by omega) (by omega)), fun _ => ?_⟩)
          exact push_end (C := B + 3960) I (by omega) (s := r.2.2) FA3 ⟨g1, g2⟩ pC3 pC.1 pM pO (StdR_k R2 (fun y j hy => f3.1 y j (oK_lo (by omega))) (f3.2 20 1 (oK_lo (by omega)))) g4 rok' g3 (fun h7 I7 f7 => simEnd (k h7 I7))
  · refine sim_q I (fun h2 I2 => k h2 (Inv_B I2 (by omega))) (-2) (fun Q hQ => ?_) (fun h1 Q I1 eR f1 hQ => ?_)
    · unfold C_perform
      exact c_trayN hx (brT' rfl (hQ h (Fp.rf _ h)))
    · unfold M_perform
      rintro _ rfl
      have := hQ _ FpThr
      exact m_noTray (fun _ => brF (by decide) this) (fun t ht e _ => absurd ⟨t, ht, e⟩ hx) (fun t ht e _ => absurd ⟨t, ht, e⟩ hx)
