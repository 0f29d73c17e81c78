/-! rings, ring, reach -/
theorem CX_w (a : Row) (w p : Nat) : CX a w (wys a w) p = cwy a w p := by
  unfold CX cwy wys
  by_cases z : obs a w p = 0
  · rw [if_pos z, if_pos z]
  · rw [if_neg z, if_neg z, if_neg z]
def oAW : Nat → Nat → Bool := fun o k => (o == 73 && k == 1) || o == 74
theorem scD_7 {o k : Nat} (h : scD o k = false) : ¬ (73 ≤ o ∧ o ≤ 79) := by
  simp only [scD, scC, Bool.and_eq_false_iff, Bool.or_eq_false_iff, decide_eq_false_iff_not, Bool.not_eq_false', Bool.and_eq_true, beq_iff_eq] at h
  rcases h with h | h
  · have := h.1.2; omega
  · omega
theorem scD_AW (o k : Nat) (h : scD o k = false) : oAW o k = false := by
  have := scD_7 h
  simp only [oAW, Bool.or_eq_false_iff, Bool.and_eq_false_iff, beq_eq_false_iff_ne]; omega
theorem scD_Lk (o k : Nat) (h : scD o k = false) : oLk o k = false := by
  have := scD_7 h
  simp only [oLk, Bool.or_eq_false_iff, Bool.and_eq_false_iff, beq_eq_false_iff_ne, decide_eq_false_iff_not]; omega
theorem c_allWays {h : Hp} {Q : Hp → Prop} {a : Row} {w : Nat} (L : Lnd h a) (O : LandOK a) (hw : w < 10) (k : ∀ h1, Fp oAW h h1 → SV a w (wys a w) h1 → (∀ p, p < 8 → gI h1 74 p = nI (cwy a w p)) → Q h1) : Survey_allWays (nI w) h Q := by
  have h8 := O.1.2.1
  unfold Survey_allWays
  refine ⟨rfl, ?_⟩
  rintro _ rfl _ rfl
  refine pk_loop (σ := Hp) (fun n i h' => Survey_allWays_L12 (nI w) Q n (nI i) h') (fun i h' => Fp oAW h h' ∧ gR h' 2 = some 14 ∧ gI h' 73 1 = nI w ∧ ∀ p, p < i → gI h' 74 p = nI (cwy a w p)) 8 0 _ (by omega) ⟨Fp.sI (Fp.sR (Fp.rf _ _)) rfl, by rw [gR_sI, gR_sR, if_pos rfl], by rw [sI_s], fun p hp => absurd hp (by omega)⟩ (fun n h1 J => ?_) (fun n i h' hi J hk => ?_)
  · obtain ⟨F, j1, j2, j3⟩ := J
    unfold Survey_allWays_L12
    refine pk_le 8 8 (fun _ => k h1 F ⟨Lnd_k L (fun o j h1 h2 => F.1 o j ?_), j1, j2, fun p hp => ?_⟩ j3) (fun c => absurd c (by omega))
    · simp only [oAW, Bool.or_eq_false_iff, Bool.and_eq_false_iff, beq_eq_false_iff_ne]; omega
    · rw [CX_w]; exact j3 p (by omega)
  · obtain ⟨F, j1, j2, j3⟩ := J
    have L' : Lnd h' a := Lnd_k L (fun o j h1 h2 => F.1 o j (by
      simp only [oAW, Bool.or_eq_false_iff, Bool.and_eq_false_iff, beq_eq_false_iff_ne]; omega))
    unfold Survey_allWays_L12
    refine pk_le 8 i (fun c => absurd c (by omega)) (fun _ => c_waysFrom L' O hw hi ⟨pk_in i 8 hi, ?_⟩)
    rw [cl i]
    rintro _ rfl _ rfl
    rw [nI_1 i]
    refine hk _ ⟨Fp.sI F rfl, j1, by rw [sI_o (by decide)]; exact j2, fun p hp => ?_⟩
    by_cases c : p = i
    · subst c; rw [sI_s]
    · rw [sI_k c]; exact j3 p (by omega)
theorem c_lookAtAll {h : Hp} {Q : Hp → Prop} {a : Row} {w : Nat} (L : Lnd h a) (O : LandOK a) (hw : w < 10) (e3 : gI h 20 3 = nI w) (k : ∀ h1, Fp scD h h1 → SV a w (wys a w) h1 → LK a w (wys a w) h1 → Q h1) : C_lookAtAll h Q := by
  unfold C_lookAtAll
  rw [e3]
  exact c_allWays L O hw (fun h1 f1 V1 _ => c_look O hw (XOK_w O w) V1 (fun h2 f2 K2 => k h2 ((f1.mo scD_AW).tr (f2.1.mo scD_Lk)) (SV_k V1 f2 oLk_S) K2))
theorem sim_rings {B : Int} : Sim B B C_rings M_rings := by
  intro h K I k
  obtain ⟨O, L⟩ : iLand h := I.1
  obtain ⟨w, t, hw, ht, ew, et, e0, e3⟩ := rowsAll I
  refine sim_q I k (nI (rings (ttA (rowM h)) (pIA (rowM h) w) (wlA (rowM h) w) (nP (rowM h))).length) (fun Q hQ => ?_) (fun h1 Q I1 eR f1 hQ => ?_)
  · unfold C_rings
    refine c_lookAtAll L O hw e3 (fun h1 f1 V1 K1 => ?_)
    rw [K1.1.1]
    exact hQ h1 f1
  · unfold M_rings
    rintro _ rfl
    refine m_laysRings (a := rowM h) O (fun j => by rw [sI_o (by decide)]; exact f1.1 99 j rfl) ew (fun h2 f2 g2 z2 r2 => ?_)
    rw [r2.1]
    exact hQ h2 (FpThr.tr f2)
/-! one fraction, two forms -/
theorem lowT_k {s : Int} {n k : Nat} (y : Int32) (hn : 1 ≤ n ∧ n ≤ 8) (hs : -792 ≤ s ∧ s ≤ 792) (hk : 1 ≤ k ∧ k ≤ 840) : lowT (Int64.ofInt (s * k)) (lN (n * k)) y = lowT (Int64.ofInt s) (lN n) y := by
  have sk : -665280 ≤ s * (k : Int) ∧ s * (k : Int) ≤ 665280 := by
    have k0 : (0 : Int) ≤ (k : Int) := by omega
    have a1 := Int.mul_le_mul_of_nonneg_right hs.1 k0
    have a2 := Int.mul_le_mul_of_nonneg_right hs.2 k0
    omega
  have nk : 1 ≤ n * k ∧ n * k ≤ 6720 := ⟨Nat.mul_pos hn.1 hk.1, Nat.mul_le_mul hn.2 hk.2⟩
  unfold lowT
  rw [oi_T (by omega), oi_T (by omega), pk_lT (by omega), pk_lT (by omega)]
  have e1 : (s * (k : Int)).natAbs = s.natAbs * k := by rw [Int.natAbs_mul]; rfl
  have e2 : ((n * k : Nat) : Int).natAbs = n * k := rfl
  have e3 : ((n : Nat) : Int).natAbs = n := rfl
  rw [e1, e2, e3, Nat.gcd_mul_right]
  obtain ⟨g, hg⟩ : ∃ g, Nat.gcd s.natAbs n = g := ⟨_, rfl⟩
  have g1 : 1 ≤ g := hg ▸ Nat.gcd_pos_of_pos_right _ hn.1
  have g2 : g ≤ 8 := hg ▸ Nat.le_trans (Nat.gcd_le_right _ hn.1) hn.2
  rw [hg]
  have gk : 1 ≤ g * k ∧ g * k ≤ 6720 := ⟨Nat.mul_pos g1 hk.1, Nat.mul_le_mul g2 hk.2⟩
  have ne : ∀ m : Nat, 1 ≤ m → m ≤ 6720 → lN m ≠ -1 := fun m h1 h2 e => by
    have := congrArg Int64.toInt e
    rw [pk_lT (by omega)] at this
    have h3 : (-1 : Int64).toInt = -1 := by decide
    omega
  have kp : (0 : Int) < (k : Int) := by omega
  by_cases c : y = 0
  · rw [if_pos c, if_pos c, l_eq, Int64.toInt_div_of_ne_right _ _ (ne _ gk.1 gk.2), Int64.toInt_div_of_ne_right _ _ (ne g g1 (by omega)), oi_T (by omega), oi_T (by omega), pk_lT (by omega), pk_lT (by omega), Int.natCast_mul, Int.mul_comm s, Int.mul_comm (g : Int), Int.mul_tdiv_mul_of_pos _ _ kp]
  · rw [if_neg c, if_neg c, l_eq, Int64.toInt_div_of_ne_right _ _ (ne _ gk.1 gk.2), Int64.toInt_div_of_ne_right _ _ (ne g g1 (by omega)), pk_lT (by omega), pk_lT (by omega), pk_lT (by omega), pk_lT (by omega), Int.natCast_mul, Int.natCast_mul, Int.mul_comm (n : Int), Int.mul_comm (g : Int), Int.mul_tdiv_mul_of_pos _ _ kp]
theorem lowT_R {R : Rg} (y : Int32) (h1 : 1 ≤ R.2.2.2) (h8 : R.2.2.2 ≤ 8) (hs : -792 ≤ R.2.2.1 ∧ R.2.2.1 ≤ 792) : lowT (Int64.ofInt (mR R)) 840 y = lowT (Int64.ofInt R.2.2.1) (lN R.2.2.2) y := by
  obtain ⟨n, hn⟩ : ∃ n, R.2.2.2 = n := ⟨_, rfl⟩
  rw [hn] at h1 h8
  obtain ⟨k, hk⟩ : ∃ k, n * k = 840 := by
    have : ∀ n, n < 9 → 1 ≤ n → n * (840 / n) = 840 := by decide
    exact ⟨840 / n, this n (by omega) h1⟩
  have kb : 1 ≤ k ∧ k ≤ 840 := by
    constructor
    · rcases Nat.eq_zero_or_pos k with z | z
      · rw [z] at hk; omega
      · exact z
    · have := Nat.le_mul_of_pos_left k h1
      omega
  have m : mR R = R.2.2.1 * (k : Int) := by
    have a := mR_mul (R := R) (by omega) (by omega)
    rw [hn] at a
    have kk : (840 : Int) = (n : Int) * (k : Int) := by rw [← Int.natCast_mul, hk]; rfl
    rw [kk, Int.mul_assoc, Int.mul_comm] at a
    have := Int.eq_of_mul_eq_mul_left (by omega) a
    rw [this, Int.mul_comm]
  rw [hn, ← lowT_k y ⟨h1, h8⟩ hs kb, hk, ← m]
  rfl
theorem m_meanOf {h : Hp} {Q : Int64 → Hp → Prop} {l : List Rg} {j : Nat} {R : Rg} {y : Int32} (r : RgM h l) (ok : RgOK l) (hj : l[j]? = some R) (k : Q (lowT (Int64.ofInt (mR R)) 840 y) h) : M_meanOf (nI j) y h Q := by
  obtain ⟨jl, jr⟩ := List.getElem?_eq_some_iff.mp hj
  have ln := ok.1
  obtain ⟨b1, b2, b3, _⟩ := ok.2 R (jr ▸ List.getElem_mem jl)
  obtain ⟨_, _, j3, j4⟩ := r.2 j R hj
  unfold M_meanOf
  refine ⟨pk_in j 1024 (by omega), pk_in j 1024 (by omega), ?_⟩
  rw [cl j, j3, j4]
  have e1 : (Int32.ofInt R.2.2.1).toInt64 = Int64.ofInt R.2.2.1 := by rw [ofI_64, Int32.toInt_ofInt_of_le (by omega) (by omega)]
  rw [e1, nI_l (by omega)]
  rw [lowT_R y b1 b2 b3] at k
  refine m_part ?_ ?_ k
  · rw [oi_T (by omega)]; omega
  · rw [pk_lT (by omega)]; omega
theorem b840 : (0 : Int) < (840 : Int64).toInt ∧ (840 : Int64).toInt < 2 ^ 45 := by decide
theorem c_low840 {h : Hp} {Q : Int64 → Hp → Prop} {x y : Int32} {v : Int} (e : x.toInt = v) (k : Q (lowT (Int64.ofInt v) 840 y) h) : C_lowestTerms x.toInt64 (840 : Int64) y h Q := by
  have bd := i_bd x
  rw [← e] at k
  refine c_lowest ?_ b840 k
  rw [i_l]; omega
theorem sim_ring {B : Int} {x z y : Int32} : SimJ B B (C_ring x z y) (M_ring x z y) := by
  intro h K I k
  obtain ⟨O, L⟩ : iLand h := I.1
  have h8 := O.1.2.1
  obtain ⟨w, t, hw, ht, ew, et, e0, e3⟩ := rowsAll I
  by_cases hx : ∃ p, p < nP (rowM h) ∧ x = nI p
  · obtain ⟨p, hp, rfl⟩ := hx
    by_cases hz : z = 0 ∨ z = 1
    · by_cases hy : y = 0 ∨ y = 1
      · obtain ⟨who, hwho⟩ : ∃ who : Nat, (who = 1 ∧ z = 0) ∨ (who = 0 ∧ z = 1) := hz.elim (fun e => ⟨1, Or.inl ⟨rfl, e⟩⟩) (fun e => ⟨0, Or.inr ⟨rfl, e⟩⟩)
        refine sim_qJ I k (lowT (Int64.ofInt (svA (rowM h) w who (wlA (rowM h) w) p)) 840 y) (fun Q hQ => ?_) (fun h1 Q I1 eR f1 hQ => ?_)
        · unfold C_ring
          refine c_plY L O hp (brF (by decide) (c_either (fun _ => brF (by decide) (c_either (fun _ => brF' (by decide) ?_) (fun q => absurd hy q))) (fun q => absurd hz q)))
          refine c_lookAtAll L O hw e3 (fun h1 f1 V1 K1 => ?_)
          rintro J60 rfl
          rw [cl p]
          obtain ⟨s1, s0⟩ := K1.2.2 p hp
          rcases hwho with ⟨rfl, rfl⟩ | ⟨rfl, rfl⟩
          · exact brT' rfl ⟨pk_in p 8 (by omega), c_low840 s1 (hQ h1 f1)⟩
          · exact brF' (by decide) ⟨pk_in p 8 (by omega), c_low840 s0 (hQ h1 f1)⟩
        · unfold M_ring
          rintro _ rfl
          refine m_plY (a := rowM h) (by rw [sI_o (by decide)]; exact f1.1 99 1 rfl) O hp (brF (by decide) (m_either (fun _ => brF (by decide) (m_either (fun _ => brF' (by decide) ?_) (fun q => absurd hy q))) (fun q => absurd hz q)))
          refine m_laysRings (a := rowM h) O (fun j => by rw [sI_o (by decide)]; exact f1.1 99 j rfl) ew (fun h2 f2 g2 z2 r2 => ?_)
          refine m_allW2 O (g2 1) z2 (fun U hU => m_comesBy O z2 (XOK_w O w) hU hp (fun r rl hr => m_allW2 O (g2 1) z2 (fun U' hU' => ?_)))
          rintro J67 rfl
          have fin : ∀ s : Int32, (who = 1 ∧ s = 0) ∨ (who = 0 ∧ s = 1) → M_ringBy (nI r) (nI U') s h2 (fun r17 h18 => M_meanOf r17 y h18 (fun r19 h20 => Q r19 h20)) := fun s hs =>
            m_secRing O (XOK_w O w) hU' hp r2 rl hr hs (fun j R hj e => m_meanOf r2 (RgOK_A O w) hj (by rw [e]; exact hQ h2 (FpThr.tr f2)))
          rcases hwho with ⟨rfl, rfl⟩ | ⟨rfl, rfl⟩
          · exact brF' (by decide) (fin 0 (Or.inl ⟨rfl, rfl⟩))
          · exact brT' rfl (fin 1 (Or.inr ⟨rfl, rfl⟩))
      · refine sim_qJ I k (-9000000000000000002) (fun Q hQ => ?_) (fun h1 Q I1 eR f1 hQ => ?_)
        · unfold C_ring
          exact c_plY L O hp (brF (by decide) (c_either (fun _ => brF (by decide) (c_either (fun q => absurd q hy) (fun _ => brT' rfl (hQ h (Fp.rf _ h))))) (fun q => absurd hz q)))
        · unfold M_ring
          rintro _ rfl
          exact m_plY (a := rowM h) (by rw [sI_o (by decide)]; exact f1.1 99 1 rfl) O hp (brF (by decide) (m_either (fun _ => brF (by decide) (m_either (fun q => absurd q hy) (fun _ => brT' rfl (hQ _ FpThr)))) (fun q => absurd hz q)))
    · refine sim_qJ I k (-9000000000000000002) (fun Q hQ => ?_) (fun h1 Q I1 eR f1 hQ => ?_)
      · unfold C_ring
        exact c_plY L O hp (brF (by decide) (c_either (fun q => absurd q hz) (fun _ => brT rfl (hQ h (Fp.rf _ h)))))
      · unfold M_ring
        rintro _ rfl
        exact m_plY (a := rowM h) (by rw [sI_o (by decide)]; exact f1.1 99 1 rfl) O hp (brF (by decide) (m_either (fun q => absurd q hz) (fun _ => brT rfl (hQ _ FpThr))))
  · refine sim_qJ I k (-9000000000000000002) (fun Q hQ => ?_) (fun h1 Q I1 eR f1 hQ => ?_)
    · unfold C_ring
      exact c_plN L O hx (brT rfl (hQ h (Fp.rf _ h)))
    · unfold M_ring
      rintro _ rfl
      exact m_plNi (a := rowM h) (by rw [sI_o (by decide)]; exact f1.1 99 1 rfl) O hx (brT rfl (hQ _ FpThr))
noncomputable def rchN (a : Row) (X : Nat → Nat) (p : Nat) : Nat := bset (fun q => @decide (Rch (ttA a) (fun p => bl (X p)) p q) (Classical.propDecidable _)) (nP a)
theorem rchN_eq {a : Row} {X : Nat → Nat} {p r : Nat} (hr : ∀ q, r.testBit q = true ↔ q < nP a ∧ Rch (ttA a) (fun p => bl (X p)) p q) : r = rchN a X p := by
  apply Nat.eq_of_testBit_eq
  intro q
  unfold rchN
  rw [Bool.eq_iff_iff, hr, bset_tb, Bool.and_eq_true, decide_eq_true_iff]
  exact and_congr Iff.rfl (@decide_eq_true_iff _ (Classical.propDecidable _)).symm
theorem sim_reach {B : Int} {x : Int32} : Sim B B (C_reach x) (M_reach x) := by
  intro h K I k
  obtain ⟨O, L⟩ : iLand h := I.1
  have h8 := O.1.2.1
  obtain ⟨w, t, hw, ht, ew, et, e0, e3⟩ := rowsAll I
  by_cases hx : ∃ p, p < nP (rowM h) ∧ x = nI p
  · obtain ⟨p, hp, rfl⟩ := hx
    refine sim_q I k (nI (rchN (rowM h) (wys (rowM h) w) p)) (fun Q hQ => ?_) (fun h1 Q I1 eR f1 hQ => ?_)
    · unfold C_reach
      refine c_plY L O hp (brF' (by decide) (c_lookAtAll L O hw e3 (fun h1 f1 V1 K1 => ⟨pk_in p 8 (by omega), ?_⟩)))
      obtain ⟨r, er, _, hr⟩ := K1.2.1 p hp
      rw [cl p, er, rchN_eq hr]
      exact hQ h1 f1
    · unfold M_reach
      rintro _ rfl
      refine m_plY (a := rowM h) (by rw [sI_o (by decide)]; exact f1.1 99 1 rfl) O hp (brF' (by decide) ?_)
      have g99 : ∀ j, gI (sI h1 98 0 0) 99 j = rowM h j := fun j => by rw [sI_o (by decide)]; exact f1.1 99 j rfl
      refine s_laysWays O g99 ew (fun h2 f2 z2 => m_allW2 (a := rowM h) O ((f2.1 99 1 rfl).trans (g99 1)) z2 (fun U hU => m_comesBy O z2 (XOK_w O w) hU hp (fun r rl hr => ?_)))
      rw [rchN_eq hr]
      exact hQ h2 (FpThr.tr (f2.fp scM_W))
  · refine sim_q I k (-2) (fun Q hQ => ?_) (fun h1 Q I1 eR f1 hQ => ?_)
    · unfold C_reach
      exact c_plN L O hx (brT' rfl (hQ h (Fp.rf _ h)))
    · unfold M_reach
      rintro _ rfl
      exact m_plNi (a := rowM h) (by rw [sI_o (by decide)]; exact f1.1 99 1 rfl) O hx (brT' rfl (hQ _ FpThr))
