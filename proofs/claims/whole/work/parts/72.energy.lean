/-! energy -/
theorem scM_118 (o k : Nat) (h : scM o k = false) : (o == 118) = false := by
  simp only [scM, Bool.or_eq_false_iff, Bool.and_eq_false_iff, decide_eq_false_iff_not] at h
  rw [beq_eq_false_iff_ne]; omega
theorem scD_86 (o k : Nat) (h : scD o k = false) : (o == 86) = false := by
  rw [beq_eq_false_iff_ne]
  rintro rfl
  cases h
theorem ways_k {h h1 : Hp} {a : Row} {w : Nat} {S : Nat → Nat → Bool} (F : Fp S h h1) (hS : ∀ o k, 105 ≤ o → o ≤ 108 → S o k = false) (z : WaysM h a w) : WaysM h1 a w := by
  obtain ⟨z1, z2, z3⟩ := z
  have k : ∀ o j, 105 ≤ o → o ≤ 108 → gI h1 o j = gI h o j := fun o j a b => F.1 o j (hS o j a b)
  refine ⟨fun p hp => (k 108 p (by omega) (by omega)).trans (z1 p hp), fun r hr => ?_, fun p hp => ?_⟩
  · rw [k 105 _ (by omega) (by omega), k 106 _ (by omega) (by omega), k 107 _ (by omega) (by omega)]; exact z2 r hr
  · rw [k 105 _ (by omega) (by omega), k 106 _ (by omega) (by omega), k 107 _ (by omega) (by omega)]; exact z3 p hp
theorem m_raise {h0 : Hp} {x1 : Int32} {K : Hp → Prop} {a : Row} {w : Nat} (O : LandOK a) (z0 : WaysM h0 a w) (h99 : ∀ j, gI h0 99 j = a j) (k : ∀ h1 f, Fp (fun o _ => o == 118) h0 h1 → (∀ q, q < 8 → gI h1 118 q = encN (f q)) → LFN (NeedW a w) (ttA a) (pIA a w) (mnA a) 801 (nP a) f → K h1) : ∃ n7, M_energy_L23 x1 (fun h8 => ∃ n19, M_energy_L44 x1 K n19 1 h8) n7 0 h0 := by
  have h8 := O.1.2.1
  refine pk_loop (σ := Hp) (fun n i h => M_energy_L23 x1 (fun h8 => ∃ n19, M_energy_L44 x1 K n19 1 h8) n (nI i) h) (fun i h => Fp (fun o _ => o == 118) h0 h ∧ ∀ q, q < i → gI h 118 q = 0) 8 0 h0 (by omega) ⟨Fp.rf _ _, fun q hq => absurd hq (by omega)⟩ (fun n h1 J => ?_) (fun n i h J2 J hk => ?_)
  · unfold M_energy_L23
    refine pk_le 8 8 (fun _ => ?_) (fun c => absurd c (by omega))
    obtain ⟨f1, z1⟩ := J
    refine pk_loop (σ := Int32 × (Nat → Nat) × Hp) (fun n i s => M_energy_L44 x1 K n s.1 s.2.2) (fun i s => Fp (fun o _ => o == 118) h0 s.2.2 ∧ (∀ q, q < 8 → gI s.2.2 118 q = encN (s.2.1 q)) ∧ RsN (NeedW a w) (ttA a) (pIA a w) (mnA a) 801 (nP a) s.2.1 ∧ (s.1 = 0 → LFN (NeedW a w) (ttA a) (pIA a w) (mnA a) 801 (nP a) s.2.1) ∧ (¬ s.1 = 0 → i ≤ smN s.2.1 (nP a))) 6409 0 (1, fun _ => 0, h1) (by omega) ⟨f1, fun q hq => z1 q hq, RsN_0 _ _ _ _, fun e => absurd (show (1 : Int32) = 0 from e) (by decide), fun _ => Nat.zero_le _⟩ (fun n s J => ?_) (fun n i s hi J hk => ?_)
    · obtain ⟨x3, f, h⟩ := s
      obtain ⟨F, e118, R, c1, c2⟩ := J
      have c2 : ¬ x3 = 0 → 6409 ≤ smN f (nP a) := c2
      have c1 : x3 = 0 → LFN (NeedW a w) (ttA a) (pIA a w) (mnA a) 801 (nP a) f := c1
      unfold M_energy_L44
      refine ⟨fun e => k h f F e118 (c1 e), fun e => ?_⟩
      have b : smN f (nP a) ≤ nP a * 801 := smN_le R.1
      have : nP a * 801 ≤ 8 * 801 := Nat.mul_le_mul_right _ h8
      have := c2 e
      omega
    · obtain ⟨x3, f0, h⟩ := s
      obtain ⟨F, e118, R, c1, c2⟩ := J
      unfold M_energy_L44
      refine ⟨fun e => k h f0 F e118 (c1 e), fun c => ?_⟩
      have c2' : i ≤ smN f0 (nP a) := c2 c
      refine pk_loop (σ := Int32 × (Nat → Nat) × Hp) (fun n' p s => M_energy_L52 x1 (fun x2_17 h18 => M_energy_L44 x1 K n x2_17 h18) n' s.1 (nI p) s.2.2) (fun p s => (s.1 = 0 ∨ s.1 = 1) ∧ Fp (fun o _ => o == 118) h0 s.2.2 ∧ (∀ q, q < 8 → gI s.2.2 118 q = encN (s.2.1 q)) ∧ RdN a w 801 f0 s.2.1 p (¬ s.1 = 0)) (nP a) 0 (0, f0, h) (by omega) ⟨Or.inl rfl, F, e118, by
        have := RdN_0 R
        have e : (¬ (0 : Int32) = 0) = False := by simp
        show RdN a w 801 f0 f0 0 (¬ (0 : Int32) = 0)
        rw [e]; exact this⟩ (fun n' s J => ?_) (fun n' p s hp J hk' => ?_)
      · obtain ⟨x, f, h2⟩ := s
        obtain ⟨hx, F2, e1182, RR⟩ := J
        have F2 : Fp (fun o _ => o == 118) h0 h2 := F2
        have RR : RdN a w 801 f0 f (nP a) (¬ x = 0) := RR
        unfold M_energy_L52
        dsimp only
        rw [F2.1 99 1 rfl, h99 1, O.1.2.2]
        refine pk_le (nP a) (nP a) (fun _ => ?_) (fun c => absurd c (by omega))
        obtain ⟨g1, g2, g3⟩ := RdN_end RR
        refine hk (x, f, h2) ⟨F2, e1182, g1, fun e => g2 (fun c => c e), fun e => ?_⟩
        have : smN f0 (nP a) < smN f (nP a) := g3 e
        show i + 1 ≤ smN f (nP a)
        omega
      · obtain ⟨x, f, h2⟩ := s
        obtain ⟨hx, F2, e1182, RR⟩ := J
        have F2 : Fp (fun o _ => o == 118) h0 h2 := F2
        have hx : x = 0 ∨ x = 1 := hx
        have e1182 : ∀ q, q < 8 → gI h2 118 q = encN (f q) := e1182
        have RR : RdN a w 801 f0 f p (¬ x = 0) := RR
        have hf := RR.1.1
        unfold M_energy_L52
        dsimp only
        rw [F2.1 99 1 rfl, h99 1, O.1.2.2]
        refine pk_le (nP a) p (fun c => absurd c (by omega)) (fun _ => ?_)
        refine m_needed (f := f) O (ways_k F2 (fun o k a b => by rw [beq_eq_false_iff_ne]; omega) z0) ((F2.1 99 3 rfl).trans (h99 3)) hp (fun q hq => e1182 q (by omega)) (fun v hv => ?_)
        have up := RdN_up O hp RR hv
        have vT := IsN_le _ _ _ _ hv
        have fp := hf p hp
        refine ⟨pk_in p 8 (by omega), ?_⟩
        rw [cl p, e1182 p (by omega)]
        rintro J86 rfl
        have fin : ∀ y : Int32, (y = 0 ∨ y = 1) → (¬ y = 0 ↔ (¬ x = 0 ∨ ¬ v = f p)) → ∀ h14 : Hp, h14 = sI h2 118 p (encN v) → ∀ v15 : Int32, v15 = (nI p + 1) → M_energy_L52 x1 (fun x2_17 h18 => M_energy_L44 x1 K n x2_17 h18) n' y v15 h14 := by
          rintro y y01 hy _ rfl _ rfl
          rw [nI_1 p]
          refine hk' (y, upN f p v, sI h2 118 p (encN v)) ⟨y01, Fp.sI F2 rfl, fun q hq => ?_, ?_⟩
          · show gI (sI h2 118 p (encN v)) 118 q = encN (if q = p then v else f q)
            by_cases e : q = p
            · subst e; rw [sI_s, if_pos rfl]
            · rw [sI_k e, if_neg e]; exact e1182 q hq
          · show RdN a w 801 f0 (upN f p v) (p + 1) (¬ y = 0)
            have e : (¬ y = 0) = (¬ x = 0 ∨ ¬ v = f p) := propext hy
            rw [e]; exact up
        rw [encN_inj vT fp]
        refine ⟨fun d => ?_, fun d => ?_⟩
        · rintro _ rfl
          refine ⟨pk_in p 8 (by omega), fin _ ?_ ?_⟩
          · rcases hx with rfl | rfl <;> decide
          · rcases hx with rfl | rfl
            · exact ⟨fun e => absurd rfl e, fun e => e.elim (fun e => absurd rfl e) (fun e => absurd d e)⟩
            · exact ⟨fun _ => Or.inl (by decide), fun _ => by decide⟩
        · rintro _ rfl
          refine ⟨pk_in p 8 (by omega), fin _ ?_ ?_⟩
          · rcases hx with rfl | rfl <;> decide
          · refine ⟨fun _ => Or.inr d, fun _ => ?_⟩
            rcases hx with rfl | rfl <;> decide
  · unfold M_energy_L23
    refine pk_le 8 i (fun c => absurd c (by omega)) (fun _ => ⟨pk_in i 8 J2, ?_⟩)
    rw [cl i]
    rintro _ rfl _ rfl
    rw [nI_1 i]
    refine hk _ ⟨Fp.sI J.1 rfl, fun q hq => ?_⟩
    by_cases e : q = i
    · subst e; rw [sI_s]
    · rw [sI_k e]; exact J.2 q (by omega)
theorem sim_energy {B : Int} {x : Int32} : Sim B B (C_energy x) (M_energy x) := by
  intro h K I k
  obtain ⟨O, L⟩ : iLand h := I.1
  obtain ⟨sO, sR⟩ : iStd B h := I.2.1
  have h8 := O.1.2.1
  obtain ⟨w, hw, ew⟩ := sO.2.1
  by_cases hx : ∃ p, p < nP (rowM h) ∧ x = nI p
  · obtain ⟨p, hp, rfl⟩ := hx
    have hne : ∀ p, p < nP (rowM h) → ∃ e, e < 24 ∧ NeedW (rowM h) w p e := fun p hp => ways_ne O (by omega)
    have h24 : ∀ p e, p < nP (rowM h) → NeedW (rowM h) w p e → e < 24 := fun p e hp he => way24 O (by omega) he
    have hW : ∀ p e, p < nP (rowM h) → NeedW (rowM h) w p e → ttA (rowM h) e < nP (rowM h) := fun p e hp he => ttA_lt O hp he
    have hpp : ∀ e, -99 ≤ pIA (rowM h) w e ∧ pIA (rowM h) w e ≤ 99 := fun e => ppA_bd _ _ _
    have s3 : gI h 20 3 = nI w := sR.2.2.2.1.trans ew
    have m61 : rowM h 61 = nI w := ew
    -- the class
    show C_energy (nI p) h _
    unfold C_energy
    refine c_plY L O hp (brF' (by decide) ?_)
    rw [s3]
    refine c_raise L O hw (fun h1 f f1 e86 lf => ?_)
    have f1' : Fp scD h h1 := f1.mo scD_86
    have I1 := Inv_k I (f1'.mo scD_2)
    have r1 : rowM h1 = rowM h := funext (fun j => f1'.1 99 j rfl)
    have fb : f p ≤ 792 := IsN_le _ _ _ _ (lf.1 p hp)
    have M : ∀ v : Int32, (∀ g : Nat → Nat, LFN (NeedW (rowM h) w) (ttA (rowM h)) (pIA (rowM h) w) (mnA (rowM h)) 801 (nP (rowM h)) g → v = if g p = 801 then -1 else nI (g p)) → M_energy (nI p) h1 (fun r2 h2 => (v = r2 → K h2) ∧ (¬ v = r2 → False)) := by
      intro v hv
      unfold M_energy
      rintro _ rfl
      refine m_plY (a := rowM h) (by rw [sI_o (by decide)]; exact f1'.1 99 1 rfl) O hp (brF' (by decide) ?_)
      refine m_ways (a := rowM h) O (fun j => by rw [sI_o (by decide)]; exact f1'.1 99 j rfl) m61 (fun h2 f2 g2 z2 => ?_)
      refine m_raise O z2 g2 (fun h3 g f3 e118 lg => ?_)
      have gb : g p ≤ 801 := IsN_le _ _ _ _ (lg.1 p hp)
      have I3 : Inv B h3 := Inv_k I1 (((FpThr.tr f2).tr (f3.mo scM_118)).mo scM_2)
      have := hv g lg
      refine ⟨pk_in p 8 (by omega), ?_⟩
      rw [cl p, e118 p (by omega), encN_far]
      refine ⟨fun c => ⟨pk_in p 8 (by omega), ?_⟩, fun c => ?_⟩
      · rw [if_neg (by omega)] at this
        have e : encN (g p) = nI (g p) := by unfold encN; rw [if_pos (by omega)]
        rw [this, e]; exact simEnd (k h3 I3)
      · rw [if_pos (by omega)] at this
        rw [this]; exact simEnd (k h3 I3)
    unfold Game_needAt
    refine brF (nI_pos (by omega)) (pk_le 8 p (fun c => absurd c (by omega)) (fun _ => ⟨pk_in p 8 (by omega), ?_⟩))
    rw [cl p, e86 p (by omega)]
    refine pk_lt (f p) 792 (fun c => ⟨pk_in p 8 (by omega), M _ (fun g lg => ?_)⟩) (fun c => M _ (fun g lg => ?_))
    · rcases two_bd _ _ _ _ h8 hne h24 hW hpp lf lg hp with ⟨t1, t2⟩ | ⟨t1, t2⟩
      · rw [if_neg (by omega), t2]
      · omega
    · rcases two_bd _ _ _ _ h8 hne h24 hW hpp lf lg hp with ⟨t1, t2⟩ | ⟨t1, t2⟩
      · omega
      · rw [if_pos t2]
  · refine sim_q I k (-2) (fun Q hQ => ?_) (fun h1 Q I1 eR f1 hQ => ?_)
    · unfold C_energy
      exact c_plN L O hx (brT' rfl (hQ h (Fp.rf _ h)))
    · unfold M_energy
      rintro _ rfl
      refine m_plNi (a := rowM h) (by rw [sI_o (by decide)]; exact f1.1 99 1 rfl) O hx (brT' rfl (hQ _ FpThr))
