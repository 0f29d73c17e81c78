/-! lists -/
theorem cut_sm : ∀ e, e < 17 → ((nI e).toInt64.toInt32.toInt8.toInt32).toInt64 = (nI e).toInt64 ∧ ((nI e).toInt64.toInt32.toInt16.toInt32).toInt64 = (nI e).toInt64 ∧ (nI e).toInt64.toInt32.toInt64 = (nI e).toInt64 := by decide +kernel
theorem cutV_sm {s : Int32} {e : Nat} (he : e < 17) : cutV s (nI e).toInt64 = (nI e).toInt64 := by
  obtain ⟨a, b, c⟩ := cut_sm e he
  unfold cutV
  split
  · exact a
  · split
    · exact b
    · split
      · exact c
      · rfl
theorem tw_lt (e : Nat) : tw e < 17 := by unfold tw; split <;> omega
theorem sim_lists {B : Int} {x : Int32} : Sim B B (C_lists x) (M_lists x) := by
  intro h K I k
  have O := I.1.1
  have h8' := O.1.2.1
  have T : iTray h := I.2.2.2.2.1
  obtain ⟨sO, sR⟩ : iStd B h := I.2.1
  by_cases hx : ∃ t, t < 4 ∧ x = nI t
  · obtain ⟨u, hu, rfl⟩ := hx
    obtain ⟨r1, r2⟩ := rf46 u hu
    obtain ⟨⟨t1, t2, t3⟩, m, hm, em, ej⟩ := T u hu
    by_cases hs : gI h 124 u = -1
    · refine sim_q I k (-6) (fun Q hQ => ?_) (fun h1 Q I1 eR f1 hQ => ?_)
      · unfold C_lists
        refine c_tray hu (brF' (by decide) ⟨pk_in u 4 hu, ?_⟩)
        rw [cl u, r1]
        unfold Tray_isMissing
        rw [← t1]
        exact brT' hs (brF (by decide) (hQ h (Fp.rf _ h)))
      · unfold M_lists
        rintro _ rfl
        refine m_noTray (fun q => absurd ⟨u, hu, rfl⟩ q) (fun t' _ et _ => brF (by decide) (hQ _ FpThr)) (fun t' ht' et hn => ?_)
        rw [nI_eq (by omega) (by omega)] at et
        subst et
        rw [sI_o (by decide), f1.1 124 u rfl] at hn
        exact absurd hs hn
    · obtain ⟨n0, b, w, t, h8, hb, G, hw, ew, ht, et, cF, mF⟩ := going I
      obtain ⟨v, hv⟩ : ∃ v : Nat → Nat, ∀ i, tw (wpS (rowM h) (stdM h) w (pO (rowM h) (stdM h) w t (ixN b (n0 - b) i))) = v i := ⟨_, fun _ => rfl⟩
      have v17 : ∀ i, v i < 17 := fun i => by rw [← hv]; exact tw_lt _
      unfold C_lists
      refine c_tray hu (brF' (by decide) ⟨pk_in u 4 hu, ?_⟩)
      rw [cl u, r1]
      unfold Tray_isMissing
      rw [← t1]
      refine brF' hs (brT rfl (cF _ (fun h1 f1 g => ?_)))
      have e1 : gI h1 (47 + 2 * u) 1 = nI m := by rw [f1.1 _ _ (by rw [bdec (by omega) (by omega) (by omega)]), ← t2]; exact em
      refine pk_loop (σ := Hp) (fun n i h2 => C_lists_L44 (47 + 2 * u) _ n (nI i) h2) (fun i h2 => (∀ o j, gI h2 o j = gI h1 o j) ∧ (∀ o j, o ≠ 48 + 2 * u → gJ h2 o j = gJ h1 o j) ∧ (∀ j, i ≤ j → gJ h2 (48 + 2 * u) j = gJ h1 (48 + 2 * u) j) ∧ ∀ j, j < i → gJ h2 (48 + 2 * u) j = (nI (v j)).toInt64) m 0 h1 (by omega) ⟨fun _ _ => rfl, fun _ _ _ => rfl, fun _ _ => rfl, fun j hj => absurd hj (by omega)⟩ (fun n h2 J => ?_) (fun n i h2 hi J hk => ?_)
      · obtain ⟨q1, q2, q3, q4⟩ := J
        unfold C_lists_L44
        rw [q1, e1]
        refine pk_le m m (fun _ => ?_) (fun q => absurd q (by omega))
        unfold M_lists
        rintro _ rfl
        have e99 : ∀ j, gI (sI h2 98 0 0) 99 j = gI h 99 j := fun j => by rw [sI_o (by decide), q1]; exact f1.1 99 j (scD_hi (by omega))
        refine m_noTray (fun q => absurd ⟨u, hu, rfl⟩ q) (fun t' ht' et' hn => ?_) (fun t' ht' et' hn => brT rfl ?_)
        · rw [nI_eq (by omega) (by omega)] at et'
          subst et'
          rw [sI_o (by decide), q1, f1.1 124 u rfl] at hn
          exact absurd hn hs
        · refine mF _ _ e99 (fun h3 f3 g3 z3 go => ?_)
          have e125 : gI h3 125 u = nI m := by rw [f3.1 125 u rfl, sI_o (by decide), q1, f1.1 125 u rfl]; exact em
          refine pk_loop (σ := Hp) (fun n i h4 => M_lists_L23 (nI u) _ n (nI i) h4) (fun i h4 => (∀ o j, gI h4 o j = gI h3 o j) ∧ (∀ o j, o ≠ 126 → gJ h4 o j = gJ h3 o j) ∧ (∀ j, ¬ (40 * u ≤ j ∧ j < 40 * u + m) → gJ h4 126 j = gJ h3 126 j) ∧ ∀ j, j < i → gJ h4 126 (40 * u + j) = (nI (v j)).toInt64) m 0 h3 (by omega) ⟨fun _ _ => rfl, fun _ _ _ => rfl, fun _ _ => rfl, fun j hj => absurd hj (by omega)⟩ (fun n h4 J4 => ?_) (fun n i h4 hi J4 hk => ?_)
          · obtain ⟨p1, p2, p3, p4⟩ := J4
            unfold M_lists_L23
            refine ⟨pk_in u 4 hu, ?_⟩
            rw [cl u, p1, e125]
            refine pk_le m m (fun _ => ⟨pk_in u 4 hu, simEnd (k h4 ?_)⟩) (fun q => absurd q (by omega))
            have gi : ∀ o j, sc2 o j = false → gI h4 o j = gI h o j := fun o j q => by
              rw [p1, f3.1 o j (scM_2 o j q), gI_sI, if_neg (by rintro ⟨rfl, rfl⟩; exact absurd q (by decide)), q1]
              exact f1.1 o j (scD_2 o j q)
            refine inv_tray I (fun o j q a b' c => gi o j q) (fun o j q a b' => ?_) (fun y hy => ?_)
            · rw [p2 o j b', f3.2 o j (scM_2 o j q)]
              show gJ h2 o j = _
              rw [q2 o j (by omega)]
              exact f1.2 o j (scD_2 o j q)
            · obtain ⟨⟨y1, y2, y3⟩, m', hm', em', ej'⟩ := T y hy
              rw [gi 124 y rfl, gi 125 y rfl, gi (47 + 2 * y) 0 (sc2_lo (by omega) (by omega) (by omega)), gi (47 + 2 * y) 1 (sc2_lo (by omega) (by omega) (by omega))]
              refine ⟨⟨y1, y2, y3⟩, m', hm', em', fun j hj => ?_⟩
              have s1 : gJ h4 (48 + 2 * y) j = gJ h2 (48 + 2 * y) j := by
                rw [p2 _ _ (by omega), f3.2 _ _ (scM_2 _ _ (sc2_lo (by omega) (by omega) (by omega)))]; rfl
              rw [s1]
              by_cases e : y = u
              · subst e
                have mm' : m' = m := by
                  have := em'.symm.trans em
                  rw [nI_eq (by omega) (by omega)] at this
                  exact this
                subst mm'
                rw [p4 j hj, q4 j hj]
              · rw [p3 _ (by omega), q2 _ _ (by omega), f3.2 126 _ rfl]
                show gJ h2 126 _ = _
                rw [q2 _ _ (by omega), f1.2 126 _ (scD_hi (by omega)), f1.2 (48 + 2 * y) j (by rw [bdec (by omega) (by omega) (by omega)])]
                exact ej' j hj
          · obtain ⟨p1, p2, p3, p4⟩ := J4
            have z4 : WaysM h4 (rowM h) w := WaysM_k z3 (fun o j _ _ => p1 o j)
            unfold M_lists_L23
            refine ⟨pk_in u 4 hu, ?_⟩
            rw [cl u, p1 125 u, e125]
            refine pk_le m i (fun q => absurd q (by omega)) (fun _ => ?_)
            rw [nI_l (by omega)]
            have ix := ix_lt (n := i) hb rfl
            refine m_placeIn (by rw [p1]; exact go.1) (by rw [p1]; exact go.2.1) h8 hb rfl (by omega) ?_
            rw [p1 119, (go.2.2 _ (by omega)).1]
            have hp := pO_lt (s := stdM h) (w := w) O ht (ixN b (n0 - b) i)
            refine m_planned O z4.1 hp (show gI h4 99 (62 + _) = stdM h (4 + _) by rw [p1, g3]; show gI h 99 _ = gI h 99 _; congr 1; omega) (sO.2.2.1 _ (by omega)) ?_
            refine m_told (way24 O (by omega) (wayP_ok O (by omega) _)) ?_
            have e40 : (40 : Int32) * nI u + nI i = nI (40 * u + i) := by
              show nI 40 * nI u + nI i = _
              rw [pk_mul, nI_add]
            rw [e40]
            refine ⟨pk_in (40 * u + i) 160 (by omega), ?_⟩
            rw [cl (40 * u + i)]
            rintro _ rfl _ rfl
            rw [nI_1]
            refine hk _ ⟨p1, fun o j a => by rw [sJ_o a]; exact p2 o j a, fun j hj => by rw [sJ_k (by omega)]; exact p3 j hj, fun j hj => ?_⟩
            by_cases e : j = i
            · subst e; rw [sJ_s, ← hv]; rfl
            · rw [sJ_k (by omega)]; exact p4 j (by omega)
      · obtain ⟨q1, q2, q3, q4⟩ := J
        unfold C_lists_L44
        rw [q1, e1]
        refine pk_le m i (fun q => absurd q (by omega)) (fun _ => ?_)
        rw [nI_l (by omega)]
        have ix := ix_lt (n := i) hb rfl
        unfold Going_wayBehind
        refine c_index (by rw [q1]; exact g.1) (by rw [q1]; exact g.2.1) (by omega) (by omega) (by omega) (brF (nI_pos (by omega)) (pk_le 9 (ixN b (n0 - b) i) (fun q => absurd q (by omega)) (fun _ => ⟨pk_in (ixN b (n0 - b) i) 9 (by omega), ?_⟩) (hb := by omega)))
        rw [cl (ixN b (n0 - b) i) (by omega), q1 89, (g.2.2.1 _ ix).2, hv]
        refine c_put hu (by omega) ?_
        rw [cutV_sm (v17 i)]
        rintro _ rfl
        rw [nI_1]
        refine hk _ ⟨q1, fun o j a => by rw [sJ_o a]; exact q2 o j a, fun j hj => by rw [sJ_k (by omega)]; exact q3 j (by omega), fun j hj => ?_⟩
        by_cases e : j = i
        · subst e; rw [sJ_s]
        · rw [sJ_k (by omega)]; exact q4 j (by omega)
  · refine sim_q I k (-2) (fun Q hQ => ?_) (fun h1 Q I1 eR f1 hQ => ?_)
    · unfold C_lists
      exact c_trayN hx (brT' rfl (hQ h (Fp.rf _ h)))
    · unfold M_lists
      rintro _ rfl
      have := hQ _ FpThr
      exact m_noTray (fun _ => brF (by decide) this) (fun t ht e _ => absurd ⟨t, ht, e⟩ hx) (fun t ht e _ => absurd ⟨t, ht, e⟩ hx)
