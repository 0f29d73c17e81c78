/-! calls that only look: fault, count, road, pay, place -/
theorem FpThr {h : Hp} : Fp scM h (sI h 98 0 0) := (Fp.rf _ h).sI rfl
theorem m_ways {h : Hp} {Q : Hp → Prop} {a : Row} {w : Nat} (O : LandOK a) (h99 : ∀ j, gI h 99 j = a j) (hw : a 61 = nI w) (k : ∀ h1, Fp scM h h1 → (∀ j, gI h1 99 j = a j) → WaysM h1 a w → Q h1) : M_laysWays h Q :=
  s_laysWays O h99 hw (fun h1 f1 z => k h1 (f1.fp scM_W) (fun j => (f1.1 99 j rfl).trans (h99 j)) z)
theorem m_payBy {h : Hp} {Q : Int32 → Hp → Prop} {a : Row} {r w : Nat} (O : LandOK a) (hr : r < nR a) (h99 : ∀ j, gI h 99 j = a j) (k : ∀ h1, Fp scM h h1 → (∀ j, gI h1 99 j = a j) → Q (payA a w r) h1) : M_payBy (nI r) (nI w) h Q :=
  s_payBy O hr h99 (fun h1 f1 => k h1 (f1.toW.fp scM_W) (fun j => (f1.1 99 j rfl).trans (h99 j)))
theorem m_isOpen {h : Hp} {Q : Int32 → Hp → Prop} {a : Row} {r w : Nat} (O : LandOK a) (hr : r < nR a) (h99 : ∀ j, gI h 99 j = a j) (hw : a 61 = nI w) (k : ∀ h1, Fp scM h h1 → (∀ j, gI h1 99 j = a j) → Q (if opnA a w r then 1 else 0) h1) : M_isOpen (nI r) h Q :=
  s_isOpen O hr h99 hw (fun h1 f1 => k h1 (f1.toW.fp scM_W) (fun j => (f1.1 99 j rfl).trans (h99 j)))
theorem Inv.wea {B : Int} {h : Hp} (I : Inv B h) : ∃ w, w < 10 ∧ gI h 99 61 = nI w ∧ gI h 20 3 = nI w := by
  obtain ⟨-, ⟨⟨_, ⟨w, h1, h2⟩, _, _⟩, _, _, _, h3, _⟩, -⟩ := I
  exact ⟨w, h1, h2, h3.trans h2⟩
theorem Inv.tok {B : Int} {h : Hp} (I : Inv B h) : ∃ t, t < nP (rowM h) ∧ gI h 99 58 = nI t ∧ gI h 20 0 = nI t := by
  obtain ⟨-, ⟨⟨⟨t, h1, h2⟩, _⟩, h3, _⟩, -⟩ := I
  exact ⟨t, h1, h2, h3.trans h2⟩
theorem sim_fault {B : Int} {x : Int32} : Sim B B (C_fault x) (M_fault x) := by
  intro h K I k
  have i7 : iFlt h := I.2.2.2.2.2.2.1
  refine sim_q I k (if x = 0 then gI h 2 13 else if x = 1 then gI h 2 14 else -1) (fun Q hQ => ?_) (fun h1 Q I1 eR f1 hQ => ?_)
  · have := hQ h (Fp.rf _ h)
    unfold C_fault
    refine ⟨fun q => ⟨fun q1 => ?_, fun q1 => ?_⟩, fun q => ?_⟩
    · rw [if_neg q, if_neg q1] at this; exact this
    · rw [if_neg q, if_pos q1] at this; exact this
    · rw [if_pos q] at this; exact this
  · have := hQ _ FpThr
    have e13 : gI (sI h1 98 0 0) 98 13 = gI h 2 13 := by rw [sI_k (by decide), f1.1 98 13 rfl]; exact i7.1.symm
    have e14 : gI (sI h1 98 0 0) 98 14 = gI h 2 14 := by rw [sI_k (by decide), f1.1 98 14 rfl]; exact i7.2.symm
    unfold M_fault
    rintro _ rfl
    rw [e13, e14]
    refine ⟨fun q => ⟨fun q1 => ?_, fun q1 => ?_⟩, fun q => ?_⟩
    · rw [if_neg q, if_neg q1] at this; exact this
    · rw [if_neg q, if_pos q1] at this; exact this
    · rw [if_pos q] at this; exact this
theorem sim_pay {B : Int} {x : Int32} : SimJ B B (C_pay x) (M_pay x) := by
  intro h K I k
  obtain ⟨O, L⟩ := I.1
  obtain ⟨w, w1, w2, w3⟩ := I.wea
  by_cases hx : ∃ r, r < nR (rowM h) ∧ x = nI r
  · obtain ⟨r, hr, rfl⟩ := hx
    refine sim_qJ I k (payA (rowM h) w r).toInt64 (fun Q hQ => ?_) (fun h1 Q I1 eR f1 hQ => ?_)
    · unfold C_pay
      refine c_rdY L O hr (brF (by decide) ?_)
      rw [w3]
      exact c_payOf L O w1 hr (hQ h (Fp.rf _ h))
    · unfold M_pay
      rintro _ rfl
      have h99 : ∀ j, gI (sI h1 98 0 0) 99 j = rowM h j := fun j => by rw [sI_o (by decide)]; exact f1.1 99 j rfl
      refine m_rdYi (h99 2) O hr (brF (by decide) ?_)
      rw [h99, show rowM h 61 = nI w from w2]
      exact m_payBy O hr h99 (fun h2 f2 _ => hQ h2 (FpThr.tr f2))
  · refine sim_qJ I k (-9000000000000000002) (fun Q hQ => ?_) (fun h1 Q I1 eR f1 hQ => ?_)
    · unfold C_pay
      exact c_rdN L O hx (brT rfl (hQ h (Fp.rf _ h)))
    · unfold M_pay
      rintro _ rfl
      have h99 : ∀ j, gI (sI h1 98 0 0) 99 j = rowM h j := fun j => by rw [sI_o (by decide)]; exact f1.1 99 j rfl
      exact m_rdNi (h99 2) O hx (brT rfl (hQ _ FpThr))
theorem sim_road {B : Int} {x y : Int32} : Sim B B (C_road x y) (M_road x y) := by
  intro h K I k
  obtain ⟨O, L⟩ := I.1
  obtain ⟨w, w1, w2, w3⟩ := I.wea
  have h16 := O.2.1.1
  by_cases hx : ∃ r, r < nR (rowM h) ∧ x = nI r
  · obtain ⟨r, hr, rfl⟩ := hx
    refine sim_q I k (if y = 0 then rowM h (10 + r) else if y = 1 then rowM h (26 + r) else if y = 2 then (if opnA (rowM h) w r then 1 else 0) else -2) (fun Q hQ => ?_) (fun h1 Q I1 eR f1 hQ => ?_)
    · have := hQ h (Fp.rf _ h)
      unfold C_road
      refine c_rdY L O hr (brF' (by decide) ⟨fun q => ?_, fun q => ⟨pk_in r 16 (by omega), ?_⟩, fun q => ⟨pk_in r 16 (by omega), ?_⟩, fun q => ?_⟩)
      · rw [if_neg (by rintro rfl; revert q; decide), if_neg (by rintro rfl; revert q; decide), if_neg (by rintro rfl; revert q; decide)] at this; exact this
      · rw [if_pos q] at this; rw [pk_cl r, (L.2.2.2.2.1 r hr).1]; exact this
      · subst q; rw [if_neg (by decide), if_pos rfl] at this; rw [pk_cl r, (L.2.2.2.2.1 r hr).2]; exact this
      · subst q; rw [if_neg (by decide), if_neg (by decide), if_pos rfl] at this
        rw [w3]
        refine c_isOpen L O w1 hr ?_
        by_cases q : opnA (rowM h) w r = true
        · rw [if_pos q] at this ⊢; exact brF (by decide) this
        · rw [if_neg q] at this ⊢; exact brT rfl this
    · unfold M_road
      rintro _ rfl
      have h99 : ∀ j, gI (sI h1 98 0 0) 99 j = rowM h j := fun j => by rw [sI_o (by decide)]; exact f1.1 99 j rfl
      have e10 : (10 : Int32) + nI r = nI (10 + r) := nI_add 10 r
      have e26 : (26 : Int32) + nI r = nI (26 + r) := nI_add 26 r
      have := hQ _ FpThr
      rw [e10, e26]
      refine m_rdYi (h99 2) O hr (brF' (by decide) ⟨fun q => ?_, fun q => ⟨pk_in (10 + r) 3276 (by omega), ?_⟩, fun q => ⟨pk_in (26 + r) 3276 (by omega), ?_⟩, fun q => ?_⟩)
      · rw [if_neg (by rintro rfl; revert q; decide), if_neg (by rintro rfl; revert q; decide), if_neg (by rintro rfl; revert q; decide)] at this; exact this
      · rw [if_pos q] at this; rw [pk_cl (10 + r), h99]; exact this
      · subst q; rw [if_neg (by decide), if_pos rfl] at this; rw [pk_cl (26 + r), h99]; exact this
      · subst q
        refine m_isOpen O hr h99 (show rowM h 61 = nI w from w2) (fun h2 f2 _ => ?_)
        have := hQ h2 (FpThr.tr f2)
        rw [if_neg (by decide), if_neg (by decide), if_pos rfl] at this
        by_cases q : opnA (rowM h) w r = true
        · rw [if_pos q] at this ⊢; exact brF (by decide) this
        · rw [if_neg q] at this ⊢; exact brT rfl this
  · refine sim_q I k (-2) (fun Q hQ => ?_) (fun h1 Q I1 eR f1 hQ => ?_)
    · unfold C_road
      exact c_rdN L O hx (brT' rfl (hQ h (Fp.rf _ h)))
    · unfold M_road
      rintro _ rfl
      have h99 : ∀ j, gI (sI h1 98 0 0) 99 j = rowM h j := fun j => by rw [sI_o (by decide)]; exact f1.1 99 j rfl
      exact m_rdNi (h99 2) O hx (brT' rfl (hQ _ FpThr))
theorem popc0 : ∀ k, popc k 0 = 0
  | 0 => rfl
  | k + 1 => by show 0 % 2 + popc k (0 / 2) = 0; rw [Nat.zero_div, popc0 k]
theorem sim_place {B : Int} {x y : Int32} : Sim B B (C_place x y) (M_place x y) := by
  intro h K I k
  obtain ⟨O, L⟩ := I.1
  obtain ⟨w, w1, w2, w3⟩ := I.wea
  have h8 := O.1.2.1
  obtain ⟨sO, sR⟩ : iStd B h := I.2.1
  by_cases hx : ∃ p, p < nP (rowM h) ∧ x = nI p
  · obtain ⟨p, hp, rfl⟩ := hx
    have hpl : plOK (rowM h) (stdM h (4 + p)) p := sO.2.2.1 p (by omega)
    have ob := obs_lt O w p
    refine sim_q I k (if y = 0 then (if mnA (rowM h) p then 1 else 0) else if y = 1 then stdM h (4 + p) else if y = 2 then nI (popc 16 (obs (rowM h) w p)) else if y = 3 then nI (tw (wayP (rowM h) w (stdM h (4 + p)) p)) else -2) (fun Q hQ => ?_) (fun h1 Q I1 eR f1 hQ => ?_)
    · have := hQ h (Fp.rf _ h)
      unfold C_place
      refine c_plY L O hp (brF' (by decide) ⟨fun q => ?_, fun q => ?_, fun q => ?_, fun q => ?_, fun q => ?_⟩)
      · rw [if_neg (by rintro rfl; revert q; decide), if_neg (by rintro rfl; revert q; decide), if_neg (by rintro rfl; revert q; decide), if_neg (by rintro rfl; revert q; decide)] at this; exact this
      · rw [if_pos q] at this; exact c_own L O (by omega) this
      · subst q; rw [if_neg (by decide), if_pos rfl] at this; exact c_planOf sR (by decide) (by omega) this
      · subst q; rw [if_neg (by decide), if_neg (by decide), if_pos rfl] at this
        rw [w3]
        exact c_openFrom L O w1 (by omega) (j_bc (by omega) this)
      · subst q; rw [if_neg (by decide), if_neg (by decide), if_neg (by decide), if_pos rfl] at this
        exact c_wayByPlan L O sR (by decide) w1 w2 (by omega) hpl this
    · unfold M_place
      rintro _ rfl
      have h99 : ∀ j, gI (sI h1 98 0 0) 99 j = rowM h j := fun j => by rw [sI_o (by decide)]; exact f1.1 99 j rfl
      have e62 : (62 : Int32) + nI p = nI (62 + p) := nI_add 62 p
      have e16 : (16 : Int32) + nI p = nI (16 + p) := nI_add 16 p
      rw [e62, e16]
      have wl := wys_lt O (w := w) (p := p) (by omega)
      refine m_plY (h99 1) O hp (brF' (by decide) (m_ways O h99 (show rowM h 61 = nI w from w2) (fun h2 f2 h99' z => ?_)))
      have := hQ h2 (FpThr.tr f2)
      have z108 : gI h2 108 p = nI (wys (rowM h) w p) := by rw [z.1 p (by omega), if_pos hp]
      refine ⟨fun q => ?_, fun q => ?_, fun q => ⟨pk_in (62 + p) 3276 (by omega), ?_⟩, fun q => ⟨pk_in p 8 (by omega), ?_⟩, fun q => ?_⟩
      · rw [if_neg (by rintro rfl; revert q; decide), if_neg (by rintro rfl; revert q; decide), if_neg (by rintro rfl; revert q; decide), if_neg (by rintro rfl; revert q; decide)] at this; exact this
      · rw [if_pos q] at this
        refine m_mine (h99' 3) O (by omega) ?_
        by_cases q : mnA (rowM h) p = true
        · rw [if_pos q] at this ⊢; exact brF (by decide) this
        · rw [if_neg q] at this ⊢; exact brT rfl this
      · subst q; rw [if_neg (by decide), if_pos rfl] at this
        rw [pk_cl (62 + p), h99']
        have e : stdM h (4 + p) = rowM h (62 + p) := by show gI h 99 (58 + (4 + p)) = gI h 99 (62 + p); congr 1; omega
        rw [← e]; exact this
      · subst q; rw [if_neg (by decide), if_neg (by decide), if_pos rfl] at this
        rw [pk_cl p, z108]
        refine s_isIn (by omega) (by omega) ?_
        by_cases q : obs (rowM h) w p = 0
        · rw [if_pos ((wys_tb O).mpr (Or.inr ⟨q, rfl⟩))]
          refine brF (by decide) ?_
          rw [q, popc0] at this; exact this
        · have hn : ¬ (wys (rowM h) w p).testBit (16 + p) = true := fun e => by
            rcases (wys_tb O).mp e with ⟨h1, _⟩ | ⟨h1, _⟩
            · omega
            · exact q h1
          rw [if_neg hn]
          refine brT rfl ⟨pk_in p 8 (by omega), ?_⟩
          rw [z108]
          refine m_bitsOf wl.1 ?_
          have e : popc 24 (wys (rowM h) w p) = popc 16 (obs (rowM h) w p) := by
            unfold wys; rw [if_neg q, show (24 : Nat) = 16 + 8 from rfl, popc_add, show obs (rowM h) w p / 2 ^ 16 = 0 by omega, popc0]; rfl
          rw [e]; exact this
      · subst q; rw [if_neg (by decide), if_neg (by decide), if_neg (by decide), if_pos rfl] at this
        have e : gI h2 99 (62 + p) = stdM h (4 + p) := by rw [h99']; show gI h 99 (62 + p) = gI h 99 (58 + (4 + p)); congr 1; omega
        exact m_planned O z.1 hp e hpl (m_told (way24 O (by omega) (wayP_ok O (by omega) _)) this)
  · refine sim_q I k (-2) (fun Q hQ => ?_) (fun h1 Q I1 eR f1 hQ => ?_)
    · unfold C_place
      exact c_plN L O hx (brT' rfl (hQ h (Fp.rf _ h)))
    · unfold M_place
      rintro _ rfl
      have h99 : ∀ j, gI (sI h1 98 0 0) 99 j = rowM h j := fun j => by rw [sI_o (by decide)]; exact f1.1 99 j rfl
      exact m_plNi (h99 1) O hx (brT' rfl (hQ _ FpThr))
