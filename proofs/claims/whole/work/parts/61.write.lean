/-! write, count -/
def cutV (s : Int32) (v : Int64) : Int64 := if s = 0 then (v.toInt32.toInt8.toInt32).toInt64 else if s = 1 then (v.toInt32.toInt16.toInt32).toInt64 else if s = 2 then v.toInt32.toInt64 else v
theorem c_put {h : Hp} {Q : Hp → Prop} {t i : Nat} {v : Int64} (ht : t < 4) (hi : i < 40) (k : Q (sJ h (48 + 2 * t) i (cutV (gI h (47 + 2 * t) 0) v))) : Tray_put (47 + 2 * t) (nI i) v h Q := by
  obtain ⟨r1, r2⟩ := rf46 t ht
  unfold Tray_put
  refine brF (nI_pos (by omega)) (pk_le 40 i (fun q => absurd q (by omega)) (fun _ => ?_))
  unfold Tray_cut
  rw [r2]
  intro v1 hv1
  rw [← hv1] at k
  clear hv1
  unfold cutV at k
  refine ⟨fun q => ⟨pk_in i 40 hi, ?_⟩, fun q => ⟨pk_in i 40 hi, ?_⟩, fun q => ⟨pk_in i 40 hi, ?_⟩, fun q => ⟨pk_in i 40 hi, ?_⟩⟩
  · rw [cl i]; rintro _ rfl
    rw [if_neg (by rintro rfl; revert q; decide), if_neg (by rintro rfl; revert q; decide), if_neg (by rintro rfl; revert q; decide)] at k; exact k
  · rw [cl i]; rintro _ rfl; rw [if_pos q] at k; exact k
  · rw [cl i]; rintro _ rfl; subst q; rw [if_neg (by decide), if_pos rfl] at k; exact k
  · rw [cl i]; rintro _ rfl; subst q; rw [if_neg (by decide), if_neg (by decide), if_pos rfl] at k; exact k
theorem m_cut {h : Hp} {Q : Int64 → Hp → Prop} {s : Int32} {v : Int64} (k : Q (cutV s v) h) : M_cut v s h Q := by
  unfold M_cut
  unfold cutV at k
  refine ⟨fun q => ⟨fun q1 => ⟨fun q2 => ?_, fun q2 => ?_⟩, fun q1 => ?_⟩, fun q => ?_⟩
  · rw [if_neg q, if_neg q1, if_neg q2] at k; exact k
  · rw [if_neg q, if_neg q1, if_pos q2] at k; exact k
  · rw [if_neg q, if_pos q1] at k; exact k
  · rw [if_pos q] at k; exact k
/-- one number of a tray written by both -/
theorem tray_put {h h2 : Hp} {t i : Nat} {v : Int64} (T : iTray h) (ht : t < 4) (hi : i < 40) (g1 : ∀ o j, (46 ≤ o ∧ o ≤ 54) ∨ o = 124 ∨ o = 125 → gI h2 o j = gI h o j) (g2 : ∀ o j, (46 ≤ o ∧ o ≤ 54) → gJ h2 o j = if o = 48 + 2 * t ∧ j = i then v else gJ h o j) (g3 : ∀ j, gJ h2 126 j = if j = 40 * t + i then v else gJ h 126 j) : iTray h2 := by
  intro u hu
  obtain ⟨⟨t1, t2, t3⟩, m, hm, em, ej⟩ := T u hu
  rw [g1 124 u (by omega), g1 125 u (by omega), g1 (47 + 2 * u) 0 (by omega), g1 (47 + 2 * u) 1 (by omega)]
  refine ⟨⟨t1, t2, t3⟩, m, hm, em, fun j hj => ?_⟩
  rw [g3, g2 _ _ (by omega)]
  by_cases e : u = t ∧ j = i
  · rw [if_pos (by omega), if_pos (by omega)]
  · rw [if_neg (by omega), if_neg (by omega)]; exact ej j hj
theorem sim_write {B : Int} {x y : Int32} {z : Int64} : SimJ B B (C_write x y z) (M_write x y z) := by
  intro h K I k
  have T : iTray h := I.2.2.2.2.1
  have m0 : (0 : Int64).toInt = 0 := rfl
  by_cases hx : ∃ t, t < 4 ∧ x = nI t
  · obtain ⟨t, ht, rfl⟩ := hx
    obtain ⟨r1, r2⟩ := rf46 t ht
    obtain ⟨⟨t1, t2, t3⟩, m, hm, em, ej⟩ := T t ht
    by_cases hs : gI h 124 t = -1
    · refine sim_qJ I k (-6) (fun Q hQ => ?_) (fun h1 Q I1 eR f1 hQ => ?_)
      · unfold C_write
        refine c_tray ht (brF' (by decide) ⟨pk_in t 4 ht, ?_⟩)
        rw [cl t, r1]
        unfold Tray_isMissing
        rw [← t1]
        exact brT' hs (brF (by decide) (hQ h (Fp.rf _ h)))
      · unfold M_write
        rintro _ rfl
        refine m_noTray (fun q => absurd ⟨t, ht, rfl⟩ q) (fun t' _ et _ => brF (by decide) (hQ _ FpThr)) (fun t' ht' et hn => ?_)
        rw [nI_eq (by omega) (by omega)] at et
        subst et
        rw [sI_o (by decide), f1.1 124 t rfl] at hn
        exact absurd hs hn
    · have nT : ∀ {h1 : Hp} {R : Int32 → Hp → Prop}, gI h1 124 t = gI h 124 t → R 0 h1 → M_noTray (nI t) h1 R := fun e r => m_noTray (fun q => absurd ⟨t, ht, rfl⟩ q) (fun t' ht' et hn => by
          rw [nI_eq (by omega) (by omega)] at et
          subst et
          rw [e] at hn
          exact absurd hn hs) (fun t' ht' et hn => r)
      have em1 : (nI m - 1 : Int32).toInt = (m : Int) - 1 := by
        rw [i_sub (by rw [nI_toInt (by omega)]; show _ ≤ _ - (1 : Int) ∧ _ - (1 : Int) < _; omega), nI_toInt (by omega)]
        rfl
      by_cases hy : ∃ i, i < m ∧ y = nI i
      · obtain ⟨i, hi, rfl⟩ := hy
        unfold C_write
        refine c_tray ht (brF' (by decide) ⟨pk_in t 4 ht, ?_⟩)
        rw [cl t, r1]
        unfold Tray_isMissing
        rw [← t1]
        refine brF' hs (brT rfl (brF (nI_pos (by omega)) ?_))
        rw [← t2, em]
        refine pk_lt i m (fun _ => ?_) (fun q => absurd q (by omega))
        refine c_put ht (by omega) ?_
        unfold Tray_number
        refine brF (nI_pos (by omega)) (pk_le 40 i (fun q => absurd q (by omega)) (fun _ => ⟨pk_in i 40 (by omega), ?_⟩))
        rw [cl i, r2, sJ_s, ← t1]
        generalize hv : cutV (gI h 124 t) z = v
        unfold M_write
        rintro _ rfl
        refine nT (by rw [sI_o (by decide)]; rfl) (brT rfl ⟨pk_in t 4 ht, ?_⟩)
        have e125 : gI (sI (sJ h (48 + 2 * t) i v) 98 0 0) 125 t = nI m := by rw [sI_o (by decide)]; exact em
        have e124 : gI (sI (sJ h (48 + 2 * t) i v) 98 0 0) 124 t = gI h 124 t := by rw [sI_o (by decide)]; rfl
        rw [cl t, e125]
        refine m_inY (by rw [i_l, nI_toInt (by omega)]; omega) (by rw [i_l, i_l, nI_toInt (by omega), em1]; omega) (brF' (by decide) ⟨pk_in t 4 ht, ?_⟩)
        have e40 : (40 : Int32) * nI t + nI i = nI (40 * t + i) := by
          show nI 40 * nI t + nI i = _
          rw [pk_mul, nI_add]
        rw [e124, e40]
        refine m_cut ⟨pk_in (40 * t + i) 160 (by omega), ?_⟩
        rw [cl (40 * t + i), hv]
        rintro _ rfl
        refine ⟨pk_in (40 * t + i) 160 (by omega), ?_⟩
        rw [sJ_s]
        refine simEnd (k _ (inv_tray I (fun o j q a b c => ?_) (fun o j q a b => ?_) (tray_put T ht (by omega) (v := v) (i := i) (fun o j ho => ?_) (fun o j ho => ?_) (fun j => ?_))))
        · show gI (sI (sJ h (48 + 2 * t) i v) 98 0 0) o j = _
          rw [gI_sI, if_neg (by rintro ⟨rfl, rfl⟩; exact absurd q (by decide))]; rfl
        · rw [sJ_o b]
          show gJ (sJ h (48 + 2 * t) i v) o j = _
          rw [sJ_o (by omega)]
        · show gI (sI (sJ h (48 + 2 * t) i v) 98 0 0) o j = _
          rw [sI_o (by omega)]; rfl
        · rw [sJ_o (by omega)]
          show gJ (sJ h (48 + 2 * t) i v) o j = _
          rw [gJ_sJ]
        · rw [gJ_sJ]
          by_cases e : j = 40 * t + i
          · rw [if_pos ⟨rfl, e⟩, if_pos e]
          · rw [if_neg (fun q => e q.2), if_neg e]
            show gJ (sJ h (48 + 2 * t) i v) 126 j = _
            rw [sJ_o (by omega)]
      · have hy' : ¬ (0 ≤ y.toInt ∧ y.toInt < m) := fun e => hy ((exN (by omega)).mpr e)
        refine sim_qJ I k (-7) (fun Q hQ => ?_) (fun h1 Q I1 eR f1 hQ => ?_)
        · have := hQ h (Fp.rf _ h)
          unfold C_write
          refine c_tray ht (brF' (by decide) ⟨pk_in t 4 ht, ?_⟩)
          rw [cl t, r1]
          unfold Tray_isMissing
          rw [← t1]
          refine brF' hs (brT rfl ⟨fun _ => this, fun q => ?_⟩)
          rw [← t2, em]
          refine ⟨fun q2 => ?_, fun _ => this⟩
          rw [i_lt] at q q2
          rw [nI_toInt (by omega)] at q2
          have l0 : (0 : Int32).toInt = 0 := by decide
          exact absurd ⟨by omega, by omega⟩ hy'
        · unfold M_write
          rintro _ rfl
          refine nT (by rw [sI_o (by decide)]; exact f1.1 124 t rfl) (brT rfl ⟨pk_in t 4 ht, ?_⟩)
          have e125 : gI (sI h1 98 0 0) 125 t = nI m := by rw [sI_o (by decide)]; exact (f1.1 125 t rfl).trans em
          rw [cl t, e125]
          exact m_inN (by rw [i_l, i_l, em1]; omega) (brT' rfl (hQ _ FpThr))
  · refine sim_qJ I k (-2) (fun Q hQ => ?_) (fun h1 Q I1 eR f1 hQ => ?_)
    · unfold C_write
      exact c_trayN hx (brT' rfl (hQ h (Fp.rf _ h)))
    · unfold M_write
      rintro _ rfl
      have := hQ _ FpThr
      exact m_noTray (fun _ => brF (by decide) this) (fun t ht e _ => absurd ⟨t, ht, e⟩ hx) (fun t ht e _ => absurd ⟨t, ht, e⟩ hx)
/-- all ways together -/
def uni (f : Nat → Nat) : Nat → Nat
  | 0 => 0
  | n + 1 => uni f n ||| f n
theorem uni_tb (f : Nat → Nat) : ∀ n i, (uni f n).testBit i = true ↔ ∃ p, p < n ∧ (f p).testBit i = true
  | 0, i => by simp [uni]
  | n + 1, i => by
    show (uni f n ||| f n).testBit i = true ↔ _
    rw [Nat.testBit_or, Bool.or_eq_true, uni_tb f n i]
    constructor
    · rintro (⟨p, h1, h2⟩ | h)
      · exact ⟨p, by omega, h2⟩
      · exact ⟨n, by omega, h⟩
    · rintro ⟨p, h1, h2⟩
      by_cases e : p = n
      · subst e; exact Or.inr h2
      · exact Or.inl ⟨p, by omega, h2⟩
theorem uni_lt {f : Nat → Nat} {m : Nat} : ∀ {n : Nat}, (∀ p, p < n → f p < 2 ^ m) → uni f n < 2 ^ m
  | 0, _ => Nat.two_pow_pos m
  | n + 1, h => Nat.or_lt_two_pow (uni_lt (fun p hp => h p (by omega))) (h n (by omega))
theorem m_allWays {h : Hp} {Q : Int32 → Hp → Prop} {a : Row} {w : Nat} (O : LandOK a) (e1 : gI h 99 1 = a 1) (z : WaysM h a w) (k : Q (nI (uni (wys a w) (nP a))) h) : M_allWays h Q := by
  have h8 := O.1.2.1
  unfold M_allWays
  refine pk_loop (σ := Int32) (fun n i s => M_allWays_L4 Q n s (nI i) h) (fun i s => s = nI (uni (wys a w) i)) (nP a) 0 _ (by omega) rfl (fun n s hs => ?_) (fun n i s hi hs hk => ?_)
  · unfold M_allWays_L4
    rw [e1, O.1.2.2]
    exact pk_le (nP a) (nP a) (fun _ => by rw [hs]; exact k) (fun q => absurd q (by omega))
  · unfold M_allWays_L4
    rw [e1, O.1.2.2]
    refine pk_le (nP a) i (fun q => absurd q (by omega)) (fun _ => ⟨pk_in i 8 (by omega), ?_⟩)
    rw [cl i, z.1 i (by omega), if_pos hi, hs, z_or]
    rintro _ rfl _ rfl
    rw [nI_1]
    exact hk _ rfl
theorem all_open {a : Row} (O : LandOK a) {w : Nat} : uni (wys a w) (nP a) &&& 65535 = bset (opnA a w) (nR a) := by
  have h16 := O.2.1.1
  apply Nat.eq_of_testBit_eq
  intro i
  rw [Nat.testBit_and, bset_tb, show (65535 : Nat) = 2 ^ 16 - 1 from rfl, Nat.testBit_two_pow_sub_one]
  by_cases q : i < nR a ∧ opnA a w i = true
  · have h1 : (uni (wys a w) (nP a)).testBit i = true := (uni_tb _ _ _).mpr ⟨fromA a i, (O.2.2.1 i q.1).1.2, (wys_tb O).mpr (Or.inl ⟨by omega, q.1, rfl, q.2⟩)⟩
    rw [h1, q.2]
    simp [q.1]; omega
  · have h1 : ((uni (wys a w) (nP a)).testBit i && decide (i < 16)) = false := by
      cases hb : (uni (wys a w) (nP a)).testBit i
      · rfl
      · obtain ⟨p, hp, h2⟩ := (uni_tb _ _ _).mp hb
        rcases (wys_tb O).mp h2 with ⟨_, a2, _, a4⟩ | ⟨_, a2⟩
        · exact absurd ⟨a2, a4⟩ q
        · simp; omega
    rw [h1]
    by_cases c : i < nR a
    · have : opnA a w i = false := by
        cases ho : opnA a w i
        · rfl
        · exact absurd ⟨c, ho⟩ q
      rw [this]; simp
    · simp [c]
theorem sim_count {B : Int} {x : Int32} : Sim B B (C_count x) (M_count x) := by
  intro h K I k
  obtain ⟨O, L⟩ := I.1
  obtain ⟨sO, sR⟩ : iStd B h := I.2.1
  obtain ⟨w, w1, w2, w3⟩ := I.wea
  obtain ⟨pm, nx, pC, pM, pO⟩ := iPast_to I.2.2.1
  obtain ⟨tm, t1, t2, t3, t4⟩ : iTape h := I.2.2.2.2.2.1
  by_cases hx : x = 6
  · subst hx
    refine sim_q I k (nI (bset (opnA (rowM h) w) (nR (rowM h)))) (fun Q hQ => ?_) (fun h1 Q I1 eR f1 hQ => ?_)
    · unfold C_count
      refine ⟨fun q => absurd q (by decide), fun q => absurd q (by decide), fun q => absurd q (by decide), fun q => absurd q (by decide), fun q => absurd q (by decide), fun q => absurd q (by decide), fun q => absurd q (by decide), fun _ => ?_, fun q => absurd q (by decide), fun q => absurd q (by decide), fun q => absurd q (by decide)⟩
      rw [w3]
      exact c_openRoads L w1 (hQ h (Fp.rf _ h))
    · unfold M_count
      rintro _ rfl
      have h99 : ∀ j, gI (sI h1 98 0 0) 99 j = rowM h j := fun j => by rw [sI_o (by decide)]; exact f1.1 99 j rfl
      refine ⟨fun q => absurd q (by decide), fun q => absurd q (by decide), fun q => absurd q (by decide), fun q => absurd q (by decide), fun q => absurd q (by decide), fun q => absurd q (by decide), fun q => absurd q (by decide), fun _ => ?_, fun q => absurd q (by decide), fun q => absurd q (by decide), fun q => absurd q (by decide)⟩
      refine m_ways O h99 (show rowM h 61 = nI w from w2) (fun h2 f2 h99' z => m_allWays O (h99' 1) z ?_)
      rw [show (65535 : Int32) = nI 65535 from rfl, z_and, all_open O]
      exact hQ h2 (FpThr.tr f2)
  · refine sim_q I k (if x = 0 then gI h 99 1 else if x = 1 then gI h 99 2 else if x = 2 then gI h 99 61 else if x = 3 then gI h 99 58 else if x = 4 then gI h 99 60 else if x = 5 then gI h 99 3 else if x = 7 then gI h 99 70 else if x = 8 then gI h 98 5 else if x = 9 then gI h 99 0 else -1) (fun Q hQ => ?_) (fun h1 Q I1 eR f1 hQ => ?_)
    · have := hQ h (Fp.rf _ h)
      unfold C_count
      refine ⟨fun q => ?_, fun q => ?_, fun q => ?_, fun q => ?_, fun q => ?_, fun q => ?_, fun q => ?_, fun q => absurd q hx, fun q => ?_, fun q => ?_, fun q => ?_⟩
      · have ne : ∀ y : Int32, ¬ (y.toInt < 0 ∨ 9 < y.toInt) → ¬ x = y := fun y hy e => by rw [e] at q; exact hy q
        rw [if_neg (ne 0 (by decide)), if_neg (ne 1 (by decide)), if_neg (ne 2 (by decide)), if_neg (ne 3 (by decide)), if_neg (ne 4 (by decide)), if_neg (ne 5 (by decide)), if_neg (ne 7 (by decide)), if_neg (ne 8 (by decide)), if_neg (ne 9 (by decide))] at this; exact this
      · subst q; exact (congrArg (fun v => Q v h) L.1).mpr this
      · subst q; exact (congrArg (fun v => Q v h) L.2.2.1).mpr this
      · subst q; exact (congrArg (fun v => Q v h) sR.2.2.2.1).mpr this
      · subst q; exact (congrArg (fun v => Q v h) sR.1).mpr this
      · subst q; exact (congrArg (fun v => Q v h) sR.2.2.1).mpr this
      · subst q; exact (congrArg (fun v => Q v h) L.2.1).mpr this
      · subst q; exact (congrArg (fun v => Q v h) (pC.2.2.1.trans pM.1.symm)).mpr this
      · subst q; exact (congrArg (fun v => Q v h) (t2.trans t3.symm)).mpr this
      · subst q; exact (congrArg (fun v => Q v h) L.2.2.2.1).mpr this
    · unfold M_count
      rintro _ rfl
      have h99 : ∀ j, gI (sI h1 98 0 0) 99 j = gI h 99 j := fun j => by rw [sI_o (by decide)]; exact f1.1 99 j rfl
      have h98 : gI (sI h1 98 0 0) 98 5 = gI h 98 5 := by rw [sI_k (by decide)]; exact f1.1 98 5 rfl
      have := hQ _ FpThr
      simp only [h99, h98]
      refine ⟨fun q => ?_, fun q => ?_, fun q => ?_, fun q => ?_, fun q => ?_, fun q => ?_, fun q => ?_, fun q => absurd q hx, fun q => ?_, fun q => ?_, fun q => ?_⟩
      · have ne : ∀ y : Int32, ¬ (y.toInt < 0 ∨ 9 < y.toInt) → ¬ x = y := fun y hy e => by rw [e] at q; exact hy q
        rw [if_neg (ne 0 (by decide)), if_neg (ne 1 (by decide)), if_neg (ne 2 (by decide)), if_neg (ne 3 (by decide)), if_neg (ne 4 (by decide)), if_neg (ne 5 (by decide)), if_neg (ne 7 (by decide)), if_neg (ne 8 (by decide)), if_neg (ne 9 (by decide))] at this; exact this
      all_goals (subst q; exact this)
