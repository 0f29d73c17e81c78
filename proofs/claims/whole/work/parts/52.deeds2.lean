/-! deeds: weather, plan, move, moves, undo -/
def scA : Nat → Nat → Bool := fun o k => scD o k || (o == 20 || o == 21 || (decide (24 ≤ o) && decide (o ≤ 45)))
def oB : Nat → Nat → Bool := fun o k => scM o k || (o == 99 && (decide (58 ≤ k) && decide (k < 70)))
theorem scA_X (o k : Nat) (h : scX o k = false) : scA o k = false := by
  simp only [scX, Bool.or_eq_false_iff] at h
  have h1 := scD_2 o k h.1.1
  simp only [scA, Bool.or_eq_false_iff]
  exact ⟨h1, h.1.2⟩
theorem oB_X (o k : Nat) (h : scX o k = false) : oB o k = false := by
  have h2 := scM_2 o k (sc2_X o k h)
  simp only [scX, Bool.or_eq_false_iff, Bool.and_eq_false_iff, decide_eq_false_iff_not] at h
  simp only [oB, h2, Bool.false_or, Bool.and_eq_false_iff, decide_eq_false_iff_not]
  rcases h.2 with q | q
  · exact Or.inl q
  · right; omega
theorem oN_X (o k : Nat) (h : scX o k = false) : oN o k = false := by
  simp only [scX, Bool.or_eq_false_iff, Bool.and_eq_false_iff, decide_eq_false_iff_not] at h
  simp only [oN, Bool.and_eq_false_iff, decide_eq_false_iff_not]
  rcases h.2 with q | q
  · exact Or.inl q
  · right; omega
theorem PastC_k {h h1 : Hp} {m nx : Nat} {D : Nat → Row} (C : PastC h m nx D) (k : ∀ o j, 24 ≤ o → o ≤ 45 → gI h1 o j = gI h o j) (kj : ∀ o j, 24 ≤ o → o ≤ 45 → gJ h1 o j = gJ h o j) : PastC h1 m nx D := by
  obtain ⟨c1, c2, c3, c4, c5⟩ := C
  refine ⟨c1, c2, by rw [k 24 2 (by omega) (by omega)]; exact c3, by rw [k 24 1 (by omega) (by omega)]; exact c4, fun i hi => ?_⟩
  have := Nat.mod_lt (nx + 10 - m + i) (show 0 < 10 by decide)
  exact StdR_k (c5 i hi) (fun x j hx => k x j (by omega) (by omega)) (kj _ 1 (by omega) (by omega))
theorem oB_lo {o k : Nat} (h : o < 98) : oB o k = false := by
  have a1 : (o == 98) = false := by simp; omega
  have a2 : (o == 99) = false := by simp; omega
  have a3 : decide (102 ≤ o) = false := by simp; omega
  simp only [oB, scM, a1, a2, a3, Bool.false_and, Bool.or_false]
theorem oN_lo {o k : Nat} (h : o ≠ 99) : oN o k = false := by
  have a2 : (o == 99) = false := by simp; omega
  simp only [oN, a2, Bool.false_and]
theorem psh_ok {a s : Row} {B : Int} {m : Nat} {D : Nat → Row} (h : ∀ i, i < m → StdOK a (D i) B) (hs : StdOK a s B) : ∀ i, i < mm m → StdOK a (psh m D s i) B := by
  intro i hi
  unfold mm at hi
  unfold psh
  by_cases q : m < 10
  · rw [if_pos q] at hi ⊢
    by_cases e : i = m
    · simp only [if_pos e]; exact hs
    · simp only [if_neg e]; exact h i (by omega)
  · rw [if_neg q] at hi ⊢
    by_cases e : i = 9
    · simp only [if_pos e]; exact hs
    · simp only [if_neg e]; exact h (i + 1) (by omega)
theorem scA_hi {o k : Nat} (h : 98 ≤ o) : scA o k = false := by
  have a1 : (o == 22) = false := by simp; omega
  have a2 : (o == 23) = false := by simp; omega
  have a3 : decide (o ≤ 79) = false := by simp; omega
  have a4 : decide (o ≤ 96) = false := by simp; omega
  have a5 : (o == 20) = false := by simp; omega
  have a6 : (o == 21) = false := by simp; omega
  have a7 : decide (o ≤ 45) = false := by simp; omega
  simp only [scA, scD, scC, a1, a2, a3, a4, a5, a6, a7, Bool.and_false, Bool.false_and, Bool.or_false]
/-- the end of a deed that is noted -/
theorem push_end {B C : Int} {h hc hm : Hp} {Q : Hp → Prop} {m nx : Nat} {s : Row} (I : Inv B h) (hBC : B ≤ C) (FC : Fp scA h hc) (FM : Fp oB hc hm) (pC : PastC hc (mm m) nx (psh m (segM h) (stdM h))) (m10 : m ≤ 10) (pM : PastM h m (segM h)) (pO : ∀ i, i < m → StdOK (rowM h) (segM h i) B) (sR : StdR hc 20 21 s) (sM : ∀ k, k < 12 → gI hm 99 (58 + k) = s k) (sO : StdOK (rowM h) s C) (s109 : ∀ k, k < 12 → gI hm 109 k = stdM h k) (k : ∀ h2, Inv C h2 → Fp oN hm h2 → Q h2) : M_notes hm Q := by
  have e99 : ∀ j, 70 ≤ j → gI hm 99 j = gI h 99 j := fun j hj => by
    rw [FM.1 99 j (by
      have : (decide (58 ≤ j) && decide (j < 70)) = false := by simp; omega
      simp only [oB, this, Bool.and_false, Bool.or_false]; rfl)]
    exact FC.1 99 j (scA_hi (by omega))
  have M0 : PastM hm m (segM h) := ⟨(e99 70 (by omega)).trans pM.1, fun i hi j hj => (e99 _ (by omega)).trans (pM.2 i hi j hj)⟩
  refine m_notes m10 M0 s109 (fun h2 f2 M2 => k h2 ?_ f2)
  refine inv_deed I hBC (((FC.mo scA_X).tr (FM.mo oB_X)).tr (f2.mo oN_X)) (s := s) (m := mm m) (nx := nx) (D := psh m (segM h) (stdM h)) ?_ (fun j hj => ?_) sO ?_ M2 ?_
  · exact StdR_k (StdR_k sR (fun x j hx => FM.1 x j (oB_lo (by omega))) (FM.2 20 1 (oB_lo (by omega)))) (fun x j hx => f2.1 x j (oN_lo (by omega))) (f2.2 20 1 (oN_lo (by omega)))
  · rw [f2.1 99 _ (by
      have : decide (70 ≤ 58 + j) = false := by simp; omega
      simp only [oN, this, Bool.false_and, Bool.and_false])]
    exact sM j hj
  · exact PastC_k (PastC_k pC (fun o j h1 h2 => FM.1 o j (oB_lo (by omega))) (fun o j h1 h2 => FM.2 o j (oB_lo (by omega)))) (fun o j h1 h2 => f2.1 o j (oN_lo (by omega))) (fun o j h1 h2 => f2.2 o j (oN_lo (by omega)))
  · exact psh_ok (fun i hi => StdOK_B (pO i hi) hBC) (StdOK_B I.2.1.1 hBC)
theorem oK_A (o k : Nat) (h : scA o k = false) : oK o k = false := by
  simp only [scA, Bool.or_eq_false_iff] at h
  exact h.2.2
theorem Inv.lnd {B : Int} {h h1 : Hp} (I : Inv B h) (k : ∀ o j, 14 ≤ o → o ≤ 19 → gI h1 o j = gI h o j) : Lnd h1 (rowM h) := Lnd_k I.1.2 k
theorem oK_lo {o k : Nat} (h : o < 24) : oK o k = false := by
  have : decide (24 ≤ o) = false := by simp; omega
  simp only [oK, this, Bool.false_and]
theorem o109_B (o k : Nat) (h : oB o k = false) : (fun (o : Nat) (_ : Nat) => o == 109) o k = false := by
  show (o == 109) = false
  simp only [oB, scM, Bool.or_eq_false_iff, Bool.and_eq_false_iff, decide_eq_false_iff_not] at h
  simp only [beq_eq_false_iff_ne]
  omega
theorem scM_B (o k : Nat) (h : oB o k = false) : scM o k = false := by simp only [oB, Bool.or_eq_false_iff] at h; exact h.1
theorem oG_B (o k : Nat) (h : oB o k = false) : oG o k = false := by
  simp only [oB, Bool.or_eq_false_iff, Bool.and_eq_false_iff, decide_eq_false_iff_not] at h
  simp only [oG, Bool.and_eq_false_iff, decide_eq_false_iff_not]
  rcases h.2 with q | q
  · exact Or.inl q
  · right; omega
def stS (s : Row) (i : Nat) (v : Int32) : Row := fun k => if k = i then v else s k
theorem stS_s (s : Row) (i : Nat) (v : Int32) : stS s i v i = v := if_pos rfl
theorem stS_n {s : Row} {i k : Nat} {v : Int32} (h : k ≠ i) : stS s i v k = s k := if_neg h
theorem sim_weather {B : Int} {x : Int32} : Sim B B (C_weather x) (M_weather x) := by
  intro h K I k
  obtain ⟨O, L⟩ := I.1
  obtain ⟨sO, sR⟩ : iStd B h := I.2.1
  obtain ⟨m, nx, pC, pM, pO⟩ := iPast_to I.2.2.1
  by_cases hx : ∃ w, w < 10 ∧ x = nI w
  · obtain ⟨w, hw, rfl⟩ := hx
    unfold C_weather
    refine c_wea hw (brF' (by decide) (c_keep sR rfS.1 (by omega) (by omega) pC (fun h1 f1 pC1 => ?_)))
    have sR1 : StdR h1 20 21 (stdM h) := StdR_k sR (fun y j hy => f1.1 y j (oK_lo (by omega))) (f1.2 20 1 (oK_lo (by omega)))
    rw [sR1.2.2.2.1]
    intro v4 hv4 h5 hh5
    rw [hv4, hh5]
    clear hv4 hh5 v4 h5
    unfold M_weather
    rintro _ rfl
    refine m_inY (by rw [i_l, nI_toInt (by omega)]; show (0 : Int) ≤ _; omega) (by rw [i_l, nI_toInt (by omega)]; show _ ≤ (9 : Int); omega) (brF' (by decide) ?_)
    refine m_stores (fun h3 f3 s3 => ?_)
    rintro _ rfl
    have FC : Fp scA h (sI h1 20 3 (nI w)) := Fp.sI (f1.mo oK_A) rfl
    have F3 : Fp oB (sI h1 20 3 (nI w)) h3 := (FpThr.mo scM_B).tr (f3.mo o109_B)
    have e109 : ∀ j, j < 12 → gI h3 109 j = stdM h j := fun j hj => by
      rw [s3 j hj, sI_o (by decide)]; exact FC.1 99 _ rfl
    have s58 : ∀ j, j < 12 → gI h3 99 (58 + j) = stdM h j := fun j hj => by
      rw [f3.1 99 _ rfl, sI_o (by decide)]; exact FC.1 99 _ rfl
    refine push_end I (Int.le_refl B) (s := stS (stdM h) 3 (nI w)) FC (Fp.sI F3 rfl) (PastC_k pC1 (fun o j h1 h2 => by rw [sI_o (by omega)]) (fun o j h1 h2 => rfl)) pC.1 pM pO ?_ (fun j hj => ?_) ?_ (fun j hj => ?_) (fun h2 I2 f2 => ?_)
    · refine ⟨?_, ?_, ?_, ?_, fun p hp => ?_⟩
      · rw [sI_k (by decide)]; exact sR1.1
      · exact sR1.2.1
      · rw [sI_k (by decide)]; exact sR1.2.2.1
      · rw [sI_s]; rfl
      · rw [sI_o (by decide), stS_n (by omega)]; exact sR1.2.2.2.2 p hp
    · by_cases e : j = 3
      · subst e; rw [sI_s]; rfl
      · rw [sI_k (by omega), stS_n e]; exact s58 j hj
    · refine ⟨sO.1, ⟨w, hw, rfl⟩, fun p hp => ?_, sO.2.2.2⟩
      rw [stS_n (by omega)]; exact sO.2.2.1 p hp
    · rw [sI_o (by decide)]; exact e109 j hj
    · rw [f2.1 109 3 rfl, sI_o (by decide), e109 3 (by omega)]
      exact simEnd (k h2 I2)
  · refine sim_q I k (-11) (fun Q hQ => ?_) (fun h1 Q I1 eR f1 hQ => ?_)
    · unfold C_weather
      exact c_weaN hx (brT' rfl (hQ h (Fp.rf _ h)))
    · unfold M_weather
      rintro _ rfl
      refine m_inN ?_ (brT' rfl (hQ _ FpThr))
      rw [i_l]
      have : ¬ (0 ≤ x.toInt ∧ x.toInt < ((10 : Nat) : Int)) := fun e => hx ((exN (n := 10) (by omega)).mpr e)
      have h1 : (0 : Int64).toInt = 0 := rfl
      have h2 : (9 : Int64).toInt = 9 := rfl
      omega
theorem sim_plan {B : Int} {x y : Int32} : Sim B B (C_plan x y) (M_plan x y) := by
  intro h K I k
  obtain ⟨O, L⟩ := I.1
  obtain ⟨sO, sR⟩ : iStd B h := I.2.1
  obtain ⟨m, nx, pC, pM, pO⟩ := iPast_to I.2.2.1
  have h8 := O.1.2.1
  have h16 := O.2.1.1
  by_cases hy : whyP (rowM h) x.toInt y.toInt = 0
  · obtain ⟨p, hp, hx, hpl⟩ : ∃ p, p < nP (rowM h) ∧ x = nI p ∧ plOK (rowM h) y p := by
      unfold whyP at hy
      by_cases q : 0 ≤ x.toInt ∧ x.toInt < nP (rowM h)
      · rw [if_pos q] at hy
        refine ⟨x.toInt.toNat, by omega, nI_i x q.1, ?_⟩
        by_cases q2 : y.toInt = -1
        · exact Or.inl (i_eq.mpr (q2.trans (by decide)))
        · rw [if_neg q2] at hy
          by_cases q3 : 0 ≤ y.toInt ∧ y.toInt < nR (rowM h)
          · rw [if_pos q3] at hy
            by_cases q4 : (fromA (rowM h) y.toInt.toNat : Int) = x.toInt
            · exact Or.inr ⟨y.toInt.toNat, by omega, nI_i y q3.1, by omega⟩
            · rw [if_neg q4] at hy; exact absurd hy (by decide)
          · rw [if_neg q3] at hy; exact absurd hy (by decide)
      · rw [if_neg q] at hy; exact absurd hy (by decide)
    unfold C_plan
    refine c_whyPlan L O ?_
    rw [hy]
    refine brT rfl (c_keep sR rfS.1 (by omega) (by omega) pC (fun h1 f1 pC1 => ?_))
    have sR1 : StdR h1 20 21 (stdM h) := StdR_k sR (fun y j hy => f1.1 y j (oK_lo (by omega))) (f1.2 20 1 (oK_lo (by omega)))
    rw [hx]
    refine c_planOf sR1 rfS.1 (by omega) ?_
    unfold Stand_setPlan
    refine brF (nI_pos (by omega)) (pk_le 8 p (fun q => absurd q (by omega)) (fun _ => ⟨pk_in p 8 (by omega), ?_⟩))
    rw [cl p, rfS.1]
    rintro _ rfl
    unfold M_plan
    rintro _ rfl
    have FC : Fp scA h (sI h1 21 p y) := Fp.sI (f1.mo oK_A) rfl
    have E1 : LSame (rowM h) (rowM (sI (sI h1 21 p y) 98 0 0)) := fun j _ _ => by
      show gI _ 99 j = _
      rw [sI_o (by decide)]; exact FC.1 99 j rfl
    refine m_whyPlan O E1 ?_
    rw [i_l, i_l, ← hx, hy]
    refine brT rfl (m_stores (fun h3 f3 s3 => ?_))
    have e62 : (62 : Int32) + x = nI (62 + p) := by rw [hx]; exact nI_add 62 p
    have e4 : (4 : Int32) + x = nI (4 + p) := by rw [hx]; exact nI_add 4 p
    rw [e62, e4]
    refine ⟨pk_in (62 + p) 3276 (by omega), ?_⟩
    rw [cl (62 + p)]
    rintro _ rfl
    have F3 : Fp oB (sI h1 21 p y) h3 := (FpThr.mo scM_B).tr (f3.mo o109_B)
    have e109 : ∀ j, j < 12 → gI h3 109 j = stdM h j := fun j hj => by
      rw [s3 j hj, sI_o (by decide)]; exact FC.1 99 _ rfl
    have s58 : ∀ j, j < 12 → gI h3 99 (58 + j) = stdM h j := fun j hj => by
      rw [f3.1 99 _ rfl, sI_o (by decide)]; exact FC.1 99 _ rfl
    refine push_end I (Int.le_refl B) (s := stS (stdM h) (4 + p) y) FC (Fp.sI F3 (by simp [oB]; omega)) (PastC_k pC1 (fun o j h1 h2 => by rw [sI_o (by omega)]) (fun o j h1 h2 => rfl)) pC.1 pM pO ?_ (fun j hj => ?_) ?_ (fun j hj => ?_) (fun h2 I2 f2 => ⟨pk_in (4 + p) 12 (by omega), ?_⟩)
    · refine ⟨?_, ?_, ?_, ?_, fun q hq => ?_⟩
      · rw [sI_o (by decide), stS_n (by omega)]; exact sR1.1
      · rw [stS_n (by omega)]; exact sR1.2.1
      · rw [sI_o (by decide), stS_n (by omega)]; exact sR1.2.2.1
      · rw [sI_o (by decide), stS_n (by omega)]; exact sR1.2.2.2.1
      · by_cases e : q = p
        · subst e; rw [sI_s, stS_s]
        · rw [sI_k e, stS_n (by omega)]; exact sR1.2.2.2.2 q hq
    · by_cases e : j = 4 + p
      · subst e; rw [show 58 + (4 + p) = 62 + p by omega, sI_s, stS_s]
      · rw [sI_k (by omega), stS_n e]; exact s58 j hj
    · refine ⟨?_, ?_, fun q hq => ?_, ?_⟩
      · rw [stS_n (by omega)]; exact sO.1
      · rw [stS_n (by omega)]; exact sO.2.1
      · by_cases e : q = p
        · subst e; rw [stS_s]; exact hpl
        · rw [stS_n (by omega)]; exact sO.2.2.1 q hq
      · rw [stS_n (by omega)]; exact sO.2.2.2
    · rw [sI_o (by decide)]; exact e109 j hj
    · rw [cl (4 + p), f2.1 109 _ rfl, sI_o (by decide), e109 (4 + p) (by omega)]
      exact simEnd (k h2 I2)
  · refine sim_q I k (-10 - whyP (rowM h) x.toInt y.toInt) (fun Q hQ => ?_) (fun h1 Q I1 eR f1 hQ => ?_)
    · unfold C_plan
      exact c_whyPlan L O (brF hy (hQ h (Fp.rf _ h)))
    · unfold M_plan
      rintro _ rfl
      refine m_whyPlan O (fun j _ _ => by show gI _ 99 j = _; rw [sI_o (by decide)]; exact f1.1 99 j rfl) ?_
      rw [i_l, i_l]
      exact brF hy (hQ _ FpThr)
