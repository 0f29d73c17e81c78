/-! worth, wins, atLeast, best, plans: the calls -/
theorem c_valueAt {h : Hp} {Q : Int32 → Hp → Prop} {p : Nat} (hp : p < 8) (k : Q (gI h 82 p) h) : Game_valueAt (nI p) h Q := by
  unfold Game_valueAt
  rw [cl p]
  exact brF (nI_pos (by omega)) (pk_le 8 p (fun c => absurd c (by omega)) (fun _ => ⟨pk_in p 8 hp, k⟩))
theorem c_bestWay {h : Hp} {Q : Int32 → Hp → Prop} {p : Nat} (hp : p < 8) (k : Q (gI h 83 p) h) : Game_bestWay (nI p) h Q := by
  unfold Game_bestWay
  rw [cl p]
  exact brF (nI_pos (by omega)) (pk_le 8 p (fun c => absurd c (by omega)) (fun _ => ⟨pk_in p 8 hp, k⟩))
theorem sim_worth {B : Int} {x y : Int32} : SimJ B B (C_worth x y) (M_worth x y) := by
  intro h K I k
  obtain ⟨O, L⟩ : iLand h := I.1
  have h8 := O.1.2.1
  obtain ⟨w, t, hw, ht, ew, et, e0, e3⟩ := rowsAll I
  obtain ⟨val, Xs, G⟩ := GmA_ex O w
  by_cases hx : ∃ p, p < nP (rowM h) ∧ x = nI p
  · obtain ⟨p, hp, rfl⟩ := hx
    by_cases hy : y = 0 ∨ y = 1
    · refine sim_gJ I k (lowT (Int64.ofInt (val p)) 840 y) (fun Q hQ => ?_) (fun h1 Q I1 eR f1 hQ => ?_)
      · unfold C_worth
        refine c_plY L O hp (brF (by decide) (c_either (fun _ => brF' (by decide) ?_) (fun q => absurd hy q)))
        rw [e3]
        refine c_solveI I hw G (fun h1 F1 g1 C1 => c_valueAt (by omega) ?_)
        exact c_low840 (C1 p hp).1 (hQ h1 F1 g1)
      · unfold M_worth
        rintro _ rfl
        refine m_plY (a := rowM h) (by rw [sI_o (by decide)]; exact f1.1 99 1 rfl) O hp (brF (by decide) (m_either (fun _ => brF' (by decide) ?_) (fun q => absurd hy q)))
        refine m_laysGame (a := rowM h) O (fun j => by rw [sI_o (by decide)]; exact f1.1 99 j rfl) ew G (fun h2 F2 S2 W2 _ _ => ⟨pk_in p 8 (by omega), ?_⟩)
        obtain ⟨j, R, ej, hj, er⟩ := W2 p hp
        rw [cl p, ej]
        refine m_meanOf S2.2.2 (RgOK_A O w) hj ?_
        rw [er]
        exact hQ h2 (FpThr.tr F2)
    · refine sim_qJ I k (-9000000000000000002) (fun Q hQ => ?_) (fun h1 Q I1 eR f1 hQ => ?_)
      · unfold C_worth
        exact c_plY L O hp (brF (by decide) (c_either (fun q => absurd q hy) (fun _ => brT' rfl (hQ h (Fp.rf _ h)))))
      · unfold M_worth
        rintro _ rfl
        exact m_plY (a := rowM h) (by rw [sI_o (by decide)]; exact f1.1 99 1 rfl) O hp (brF (by decide) (m_either (fun q => absurd q hy) (fun _ => brT' rfl (hQ _ FpThr))))
  · refine sim_qJ I k (-9000000000000000002) (fun Q hQ => ?_) (fun h1 Q I1 eR f1 hQ => ?_)
    · unfold C_worth
      exact c_plN L O hx (brT rfl (hQ h (Fp.rf _ h)))
    · unfold M_worth
      rintro _ rfl
      exact m_plNi (a := rowM h) (by rw [sI_o (by decide)]; exact f1.1 99 1 rfl) O hx (brT rfl (hQ _ FpThr))
/-! wins -/
theorem j_sgn {x : Int32} {h : Hp} {Q : Int32 → Hp → Prop} (b : -2147483648 < x.toInt) (k1 : x.toInt < 0 → Q (-1) h) (k2 : x.toInt = 0 → Q 0 h) (k3 : 0 < x.toInt → Q 1 h) : J6_signum_0f7a4 x h Q := by
  have xb := i_bd x
  unfold J6_signum_0f7a4
  have e1 : (x >>> ((31 : Int32) &&& 31)).toInt = x.toInt >>> 31 := pk_shr x _ 31 (by decide)
  have e2 : (((-x).toUInt32 >>> ((31 : Int32).toUInt32 &&& Int32.toUInt32 31)).toInt32).toBitVec.toNat = (-x).toBitVec.toNat / 2 ^ 31 := pk_ushr (-x) 31 31 (by decide)
  have nx : (-x).toInt = -x.toInt := by rw [Int32.toInt_neg, bm32 (by omega)]
  have nt : ((-x).toBitVec.toNat : Int) = if 0 ≤ (-x).toInt then (-x).toInt else (-x).toInt + 4294967296 := by
    have d : (-x).toInt = (-x).toBitVec.toInt := rfl
    rw [d, BitVec.toInt_eq_toNat_cond]
    have l := (-x).toBitVec.isLt
    split <;> split <;> omega
  rw [Int.shiftRight_eq_div_pow] at e1
  have s1 : x.toInt < 0 → x >>> ((31 : Int32) &&& 31) = -1 := fun c => i_eq.mpr (by
    rw [e1, show (-1 : Int32).toInt = -1 by decide]; omega)
  have s2 : 0 ≤ x.toInt → x >>> ((31 : Int32) &&& 31) = 0 := fun c => i_eq.mpr (by
    rw [e1, show (0 : Int32).toInt = 0 by decide]; omega)
  have u : ∀ n : Nat, n < 2 → (-x).toBitVec.toNat / 2 ^ 31 = n → ((-x).toUInt32 >>> ((31 : Int32).toUInt32 &&& Int32.toUInt32 31)).toInt32 = nI n := fun n hn e => by
    apply Int32.toBitVec_inj.1
    apply BitVec.eq_of_toNat_eq
    rw [e2, e]
    exact (pk_tn (by omega)).symm
  rw [show Nat.toUInt32 31 = Int32.toUInt32 31 by decide]
  rcases Int.lt_trichotomy x.toInt 0 with c | c | c
  · rw [s1 c, u 0 (by omega) (by omega)]
    exact k1 c
  · rw [s2 (by omega), u 0 (by omega) (by omega)]
    exact k2 c
  · rw [s2 (by omega), u 1 (by omega) (by omega)]
    exact k3 c
def sgV (v : Int) : Nat := if v < 0 then 0 else if v = 0 then 1 else 2
theorem mR_sg {R : Rg} (h1 : 1 ≤ R.2.2.2) (h8 : R.2.2.2 ≤ 8) : (mR R < 0 ↔ R.2.2.1 < 0) ∧ (mR R = 0 ↔ R.2.2.1 = 0) := by
  have m := mR_mul h1 h8
  have p : (0 : Int) < (R.2.2.2 : Int) := by omega
  refine ⟨⟨fun c => ?_, fun c => ?_⟩, ⟨fun c => ?_, fun c => ?_⟩⟩
  · have := Int.mul_neg_of_neg_of_pos c p; omega
  · rcases Int.lt_or_le (mR R) 0 with d | d
    · exact d
    · have := Int.mul_nonneg d (Int.le_of_lt p); omega
  · rw [c, Int.zero_mul] at m; omega
  · rw [c, Int.mul_zero] at m
    rcases Int.mul_eq_zero.mp m with d | d
    · exact d
    · omega
theorem sim_wins {B : Int} {x : Int32} : Sim B B (C_wins x) (M_wins x) := by
  intro h K I k
  obtain ⟨O, L⟩ : iLand h := I.1
  have h8 := O.1.2.1
  obtain ⟨w, t, hw, ht, ew, et, e0, e3⟩ := rowsAll I
  obtain ⟨val, Xs, G⟩ := GmA_ex O w
  by_cases hx : ∃ s, s ≤ 2 ∧ x = nI s
  · obtain ⟨s, hs, rfl⟩ := hx
    refine sim_g I k (nI (bset (fun p => decide (sgV (val p) = s)) (nP (rowM h)))) (fun Q hQ => ?_) (fun h1 Q I1 eR f1 hQ => ?_)
    · unfold C_wins
      refine brF (nI_pos (by omega)) (pk_le s 2 (fun _ => ?_) (fun c => absurd c (by omega)))
      rw [e3]
      refine c_solveI I hw G (fun h1 F1 g1 C1 => ?_)
      have L1 : Lnd h1 (rowM h) := Lnd_k L (fun o j a1 a2 => F1.1 o j (by
        simp only [scG, scD, scC, Bool.and_eq_false_iff, Bool.or_eq_false_iff, decide_eq_false_iff_not, beq_eq_false_iff_ne]; omega))
      refine pk_loop (σ := Nat) (fun n i b => C_wins_L38 (nI s) Q n (nI b) (nI i) h1) (fun i b => b = bset (fun p => decide (sgV (val p) = s)) i) (nP (rowM h)) 0 0 (by omega) rfl (fun n b J => ?_) (fun n i b hi J hk => ?_)
      · unfold C_wins_L38
        rw [L1.1, O.1.2.2]
        refine pk_le (nP (rowM h)) (nP (rowM h)) (fun _ => ?_) (fun c => absurd c (by omega))
        rw [J]; exact hQ h1 F1 g1
      · unfold C_wins_L38
        rw [L1.1, O.1.2.2]
        have cv := (C1 i hi).1
        have vb := val_b O G.1 hi
        have no : ¬ sgV (val i) = s → ∀ v8 : Int32, v8 = (nI i + 1) → C_wins_L38 (nI s) Q n (nI b) v8 h1 := by
          rintro c _ rfl
          rw [nI_1 i]
          exact hk b (by rw [J, bset_no (by exact decide_eq_false c)])
        have yes : sgV (val i) = s → ∀ v9 : Int32, v9 = (nI b ||| ((1 : Int32) <<< (nI i &&& 31))) → ∀ v8 : Int32, v8 = (nI i + 1) → C_wins_L38 (nI s) Q n v9 v8 h1 := by
          rintro c _ rfl _ rfl
          rw [nI_1 i, z_1 i (by omega), z_or]
          refine hk _ ?_
          rw [J, ← bset_or, if_pos (by exact decide_eq_true c)]
        have s3 : s = 0 ∨ s = 1 ∨ s = 2 := by omega
        refine pk_le (nP (rowM h)) i (fun c => absurd c (by omega)) (fun _ => c_valueAt (by omega) (j_sgn (by rw [cv]; omega) (fun c => ?_) (fun c => ?_) (fun c => ?_)))
        · rw [cv] at c
          have sv : sgV (val i) = 0 := if_pos c
          rintro J72 rfl
          rcases s3 with rfl | rfl | rfl
          · exact brT' (by decide) (yes sv)
          · exact brF' (by decide) (no (by rw [sv]; decide))
          · exact brF' (by decide) (no (by rw [sv]; decide))
        · rw [cv] at c
          have sv : sgV (val i) = 1 := by unfold sgV; rw [if_neg (by omega), if_pos c]
          rintro J72 rfl
          rcases s3 with rfl | rfl | rfl
          · exact brF' (by decide) (no (by rw [sv]; decide))
          · exact brT' (by decide) (yes sv)
          · exact brF' (by decide) (no (by rw [sv]; decide))
        · rw [cv] at c
          have sv : sgV (val i) = 2 := by unfold sgV; rw [if_neg (by omega), if_neg (by omega)]
          rintro J72 rfl
          rcases s3 with rfl | rfl | rfl
          · exact brF' (by decide) (no (by rw [sv]; decide))
          · exact brF' (by decide) (no (by rw [sv]; decide))
          · exact brT' (by decide) (yes sv)
    · unfold M_wins
      rintro _ rfl
      have a1 : (0 : Int64).toInt = 0 := rfl
      have a2 : (2 : Int64).toInt = 2 := rfl
      refine m_inY (by rw [i_l, nI_toInt (by omega), a1]; omega) (by rw [i_l, nI_toInt (by omega), a2]; omega) (brF' (by decide) ?_)
      refine m_laysGame (a := rowM h) O (fun j => by rw [sI_o (by decide)]; exact f1.1 99 j rfl) ew G (fun h2 F2 S2 W2 _ _ => ?_)
      refine pk_loop (σ := Nat) (fun n i b => M_wins_L28 (nI s) Q n (nI b) (nI i) h2) (fun i b => b = bset (fun p => decide (sgV (val p) = s)) i) (nP (rowM h)) 0 0 (by omega) rfl (fun n b J => ?_) (fun n i b hi J hk => ?_)
      · unfold M_wins_L28
        rw [S2.1, O.1.2.2]
        refine pk_le (nP (rowM h)) (nP (rowM h)) (fun _ => ?_) (fun c => absurd c (by omega))
        rw [J]; exact hQ h2 (FpThr.tr F2)
      · unfold M_wins_L28
        rw [S2.1, O.1.2.2]
        obtain ⟨j, R, ej, hj, er⟩ := W2 i hi
        have ok := RgOK_A O w
        obtain ⟨jl, jr⟩ := List.getElem?_eq_some_iff.mp hj
        have ln : (lA (rowM h) w).length ≤ 1024 := ok.1
        obtain ⟨b1, b2, b3, _⟩ := ok.2 R (jr ▸ List.getElem_mem jl)
        obtain ⟨sg1, sg2⟩ := mR_sg b1 b2
        rw [er] at sg1 sg2
        have pi : (Int32.ofInt R.2.2.1).toInt = R.2.2.1 := Int32.toInt_ofInt_of_le (by omega) (by omega)
        have go : ∀ (s6 : Int32) (m : Nat), s6 = nI m → m < 3 → sgV (val i) = m → (∀ J82 : Int32 → Hp → Prop, J82 = (fun s8 h9 => ∀ v10 : Int32, v10 = (nI b ||| s8) → ∀ v11 : Int32, v11 = (nI i + 1) → M_wins_L28 (nI s) Q n v10 v11 h9) → (¬ s6 = nI s → J82 0 h2) ∧ (s6 = nI s → J82 ((1 : Int32) <<< (nI i &&& 31)) h2)) := by
          rintro _ m rfl hm sv J82 rfl
          rw [nI_eq (by omega) (by omega)]
          refine ⟨fun c => ?_, fun c => ?_⟩
          · rintro _ rfl _ rfl
            rw [nI_1 i, show nI b ||| (0 : Int32) = nI b by rw [show (0 : Int32) = nI 0 from rfl, z_or, Nat.or_zero]]
            exact hk b (by rw [J, bset_no (by exact decide_eq_false (by rw [sv]; exact c))])
          · rintro _ rfl _ rfl
            rw [nI_1 i, z_1 i (by omega), z_or]
            refine hk _ ?_
            rw [J, ← bset_or, if_pos (by exact decide_eq_true (by rw [sv]; exact c))]
        refine pk_le (nP (rowM h)) i (fun c => absurd c (by omega)) (fun _ => ⟨pk_in i 8 (by omega), ?_⟩)
        rw [cl i, ej]
        refine ⟨pk_in j 1024 (by omega), ?_⟩
        rw [cl j, (S2.2.2.2 j R hj).2.2.1]
        rintro _ rfl J71 rfl
        have z0 : (0 : Int32).toInt = 0 := by decide
        rw [i_le, z0, pi, i_eq, z0, pi]
        refine ⟨fun c => ⟨fun d => go 2 2 rfl (by omega) ?_, fun d => go 1 1 rfl (by omega) ?_⟩, fun c => go 0 0 rfl (by omega) ?_⟩
        · unfold sgV; rw [if_neg (by omega), if_neg (by omega)]
        · unfold sgV; rw [if_neg (by omega), if_pos (by omega)]
        · unfold sgV; rw [if_pos (by omega)]
  · refine sim_q I k (-2) (fun Q hQ => ?_) (fun h1 Q I1 eR f1 hQ => ?_)
    · unfold C_wins
      refine ⟨fun _ => hQ h (Fp.rf _ h), fun q => ?_⟩
      obtain ⟨s, s31, rfl⟩ := nI_of q
      exact pk_le s 2 (fun c => absurd ⟨s, c, rfl⟩ hx) (fun _ => hQ h (Fp.rf _ h))
    · unfold M_wins
      rintro _ rfl
      have a1 : (0 : Int64).toInt = 0 := rfl
      have a2 : (2 : Int64).toInt = 2 := rfl
      refine m_in (fun c1 c2 => ?_) (fun _ => brT' rfl (hQ _ FpThr))
      rw [a1] at c1
      rw [a2] at c2
      exact absurd ⟨x.toInt.toNat, by omega, nI_i x c1⟩ hx
/-! atLeast -/
theorem sim_atLeast {B : Int} {x y z : Int32} : Sim B B (C_atLeast x y z) (M_atLeast x y z) := by
  intro h K I k
  obtain ⟨O, L⟩ : iLand h := I.1
  have h8 := O.1.2.1
  obtain ⟨w, t, hw, ht, ew, et, e0, e3⟩ := rowsAll I
  obtain ⟨val, Xs, G⟩ := GmA_ex O w
  have i9 : (-9999 : Int32).toInt = -9999 := by decide
  have i9' : (9999 : Int32).toInt = 9999 := by decide
  have i1 : (1 : Int32).toInt = 1 := by decide
  have i99 : (99 : Int32).toInt = 99 := by decide
  have i840 : (840 : Int32).toInt = 840 := by decide
  have l9 : (-9999 : Int64).toInt = -9999 := by decide
  have l9' : (9999 : Int64).toInt = 9999 := by decide
  have l1 : (1 : Int64).toInt = 1 := by decide
  have l99 : (99 : Int64).toInt = 99 := by decide
  by_cases hx : ∃ p, p < nP (rowM h) ∧ x = nI p
  · obtain ⟨p, hp, rfl⟩ := hx
    have vb := val_b O G.1 hp
    by_cases hy : -9999 ≤ y.toInt ∧ y.toInt ≤ 9999
    · by_cases hz : 1 ≤ z.toInt ∧ z.toInt ≤ 99
      · refine sim_g I k (if val p * z.toInt < y.toInt * 840 then 0 else 1) (fun Q hQ => ?_) (fun h1 Q I1 eR f1 hQ => ?_)
        · unfold C_atLeast
          refine c_plY L O hp (brF' (by decide) (brF (by rw [i_lt, i9]; omega) (brF (by rw [i_lt, i9']; omega) (brF (by rw [i_lt, i1]; omega) (brT (by rw [i_le, i99]; omega) ?_)))))
          rw [e3]
          refine c_solveI I hw G (fun h1 F1 g1 C1 => c_valueAt (by omega) ?_)
          have cv := (C1 p hp).1
          have vz : -8232840 ≤ val p * z.toInt ∧ val p * z.toInt ≤ 8232840 := by
            have p0 : (0 : Int) ≤ z.toInt := by omega
            have a1 := Int.mul_le_mul_of_nonneg_right vb.1 p0
            have a2 := Int.mul_le_mul_of_nonneg_right vb.2 p0
            omega
          rw [i_lt, i_mul (by rw [cv]; omega), i_mul (by rw [i840]; omega), cv, i840]
          have fin := hQ h1 F1 g1
          refine ⟨fun c => ?_, fun c => ?_⟩
          · rw [if_pos c] at fin; exact fin
          · rw [if_neg c] at fin; exact fin
        · unfold M_atLeast
          rintro _ rfl
          refine m_plY (a := rowM h) (by rw [sI_o (by decide)]; exact f1.1 99 1 rfl) O hp (brF' (by decide) (m_inY (by rw [i_l, l9]; omega) (by rw [i_l, l9']; omega) (brF (by decide) (m_inY (by rw [i_l, l1]; omega) (by rw [i_l, l99]; omega) (brF' (by decide) ?_)))))
          refine m_laysGame (a := rowM h) O (fun j => by rw [sI_o (by decide)]; exact f1.1 99 j rfl) ew G (fun h2 F2 S2 W2 _ _ => ?_)
          obtain ⟨j, R, ej, hj, er⟩ := W2 p hp
          have ok := RgOK_A O w
          obtain ⟨jl, jr⟩ := List.getElem?_eq_some_iff.mp hj
          have ln : (lA (rowM h) w).length ≤ 1024 := ok.1
          obtain ⟨b1, b2, b3, _⟩ := ok.2 R (jr ▸ List.getElem_mem jl)
          obtain ⟨_, _, r3, r4⟩ := S2.2.2.2 j R hj
          rw [cl p, ej, cl j, r3, r4]
          refine ⟨pk_in p 8 (by omega), pk_in j 1024 (by omega), pk_in p 8 (by omega), pk_in j 1024 (by omega), ?_⟩
          have pi : (Int32.ofInt R.2.2.1).toInt = R.2.2.1 := Int32.toInt_ofInt_of_le (by omega) (by omega)
          have ni : (nI R.2.2.2).toInt = R.2.2.2 := nI_toInt (by omega)
          have pz : -78408 ≤ R.2.2.1 * z.toInt ∧ R.2.2.1 * z.toInt ≤ 78408 := by
            have p0 : (0 : Int) ≤ z.toInt := by omega
            have a1 := Int.mul_le_mul_of_nonneg_right b3.1 p0
            have a2 := Int.mul_le_mul_of_nonneg_right b3.2 p0
            omega
          have yl : -79992 ≤ y.toInt * (R.2.2.2 : Int) ∧ y.toInt * (R.2.2.2 : Int) ≤ 79992 := by
            have p0 : (0 : Int) ≤ (R.2.2.2 : Int) := by omega
            have a1 := Int.mul_le_mul_of_nonneg_right hy.1 p0
            have a2 := Int.mul_le_mul_of_nonneg_right hy.2 p0
            omega
          rw [i_lt, i_mul (by rw [pi]; omega), i_mul (by rw [ni]; omega), pi, ni]
          have m := mR_mul b1 b2
          rw [er] at m
          have lp : (0 : Int) < (R.2.2.2 : Int) := by omega
          have key : R.2.2.1 * z.toInt < y.toInt * (R.2.2.2 : Int) ↔ val p * z.toInt < y.toInt * 840 := by
            have e1 : (val p * z.toInt) * (R.2.2.2 : Int) = 840 * (R.2.2.1 * z.toInt) := by
              rw [Int.mul_assoc, Int.mul_comm z.toInt, ← Int.mul_assoc, m, Int.mul_assoc]
            have e2 : (y.toInt * 840) * (R.2.2.2 : Int) = 840 * (y.toInt * (R.2.2.2 : Int)) := by
              rw [Int.mul_comm y.toInt 840, Int.mul_assoc]
            constructor
            · intro c
              refine Int.lt_of_mul_lt_mul_right (a := (R.2.2.2 : Int)) ?_ (Int.le_of_lt lp)
              rw [e1, e2]; omega
            · intro c
              have := Int.mul_lt_mul_of_pos_right c lp
              rw [e1, e2] at this
              omega
          rw [key]
          have fin := hQ h2 (FpThr.tr F2)
          refine ⟨fun c => ?_, fun c => ?_⟩
          · rw [if_pos c] at fin; exact fin
          · rw [if_neg c] at fin; exact fin
      · refine sim_q I k (-3) (fun Q hQ => ?_) (fun h1 Q I1 eR f1 hQ => ?_)
        · unfold C_atLeast
          refine c_plY L O hp (brF' (by decide) (brF (by rw [i_lt, i9]; omega) (brF (by rw [i_lt, i9']; omega) ⟨fun _ => hQ h (Fp.rf _ h), fun c => brF ?_ (hQ h (Fp.rf _ h))⟩)))
          rw [i_lt, i1] at c
          rw [i_le, i99]; omega
        · unfold M_atLeast
          rintro _ rfl
          refine m_plY (a := rowM h) (by rw [sI_o (by decide)]; exact f1.1 99 1 rfl) O hp (brF' (by decide) (m_inY (by rw [i_l, l9]; omega) (by rw [i_l, l9']; omega) (brF (by decide) (m_inN ?_ (brT' rfl (hQ _ FpThr))))))
          rw [i_l, l1, l99]; omega
    · refine sim_q I k (-3) (fun Q hQ => ?_) (fun h1 Q I1 eR f1 hQ => ?_)
      · unfold C_atLeast
        refine c_plY L O hp (brF' (by decide) ⟨fun _ => hQ h (Fp.rf _ h), fun c => brT ?_ (hQ h (Fp.rf _ h))⟩)
        rw [i_lt, i9] at c
        rw [i_lt, i9']; omega
      · unfold M_atLeast
        rintro _ rfl
        refine m_plY (a := rowM h) (by rw [sI_o (by decide)]; exact f1.1 99 1 rfl) O hp (brF' (by decide) (m_inN ?_ (brT rfl (hQ _ FpThr))))
        rw [i_l, l9, l9']; omega
  · refine sim_q I k (-2) (fun Q hQ => ?_) (fun h1 Q I1 eR f1 hQ => ?_)
    · unfold C_atLeast
      exact c_plN L O hx (brT' rfl (hQ h (Fp.rf _ h)))
    · unfold M_atLeast
      rintro _ rfl
      exact m_plNi (a := rowM h) (by rw [sI_o (by decide)]; exact f1.1 99 1 rfl) O hx (brT' rfl (hQ _ FpThr))
/-! best, plans -/
theorem U_own {a : Row} {w : Nat} {X : Nat → Nat} {U p : Nat} (O : LandOK a) (hX : XOK a w X) (hU : UX a X U) (hp : p < nP a) : U &&& wys a w p = X p := by
  apply Nat.eq_of_testBit_eq
  intro e
  rw [Nat.testBit_and, Bool.eq_iff_iff, Bool.and_eq_true, hU.2]
  constructor
  · rintro ⟨⟨q, hq, hb⟩, b2⟩
    have w1 := X_ok O hX hq hb
    have w2 : wayOK a w p e := (wys_tb O).mp b2
    have : q = p := by
      rcases w1 with ⟨c1, _, c3, _⟩ | ⟨_, c2⟩ <;> rcases w2 with ⟨d1, _, d3, _⟩ | ⟨_, d2⟩ <;> omega
    rw [← this]; exact hb
  · intro b; exact ⟨⟨p, hp, b⟩, (hX p hp).2 e b⟩
theorem sim_best {B : Int} {x : Int32} : Sim B B (C_best x) (M_best x) := by
  intro h K I k
  obtain ⟨O, L⟩ : iLand h := I.1
  have h8 := O.1.2.1
  obtain ⟨w, t, hw, ht, ew, et, e0, e3⟩ := rowsAll I
  obtain ⟨val, Xs, G⟩ := GmA_ex O w
  by_cases hx : ∃ p, p < nP (rowM h) ∧ x = nI p
  · obtain ⟨p, hp, rfl⟩ := hx
    obtain ⟨who, hwho⟩ : ∃ who, who = if mnA (rowM h) p then 1 else 0 := ⟨_, rfl⟩
    have hw2 : who < 2 := by rw [hwho]; split <;> omega
    have ow : ownB (mnA (rowM h)) who p = true := by rw [hwho]; exact own_who
    obtain ⟨e, be, e24, ee⟩ := Xs_own G hp hw2 ow
    refine sim_g I k (nI (tw e)) (fun Q hQ => ?_) (fun h1 Q I1 eR f1 hQ => ?_)
    · unfold C_best
      refine c_plY L O hp (brF' (by decide) ?_)
      rw [e3]
      refine c_solveI I hw G (fun h1 F1 g1 C1 => c_bestWay (by omega) ?_)
      rw [(C1 p hp).2.2.2 e who hw2 ow ee e24]
      exact hQ h1 F1 g1
    · unfold M_best
      rintro _ rfl
      refine m_plY (a := rowM h) (by rw [sI_o (by decide)]; exact f1.1 99 1 rfl) O hp (brF' (by decide) ?_)
      refine m_laysGame (a := rowM h) O (fun j => by rw [sI_o (by decide)]; exact f1.1 99 j rfl) ew G (fun h2 F2 S2 W2 G0 G1 => ?_)
      refine m_mine (a := rowM h) (S2.1 3) O (by omega) ?_
      rintro J38 rfl
      have go : ∀ s7 : Int32, s7 = nI who → (vp_in s7 2 ∧ vp_in (nI p) 8 ∧ M_firstIn ((gI h2 114 (s7).toNatClampNeg) &&& (gI h2 108 (nI p).toNatClampNeg)) h2 (fun r9 h10 => M_toldWay r9 h10 (fun r11 h12 => Q r11 h12))) := by
        rintro _ rfl
        refine ⟨pk_in who 2 hw2, pk_in p 8 (by omega), ?_⟩
        have gw : GmW (rowM h) w who val Xs h2 := by
          have w01 : who = 0 ∨ who = 1 := by omega
          rcases w01 with z | z <;> rw [z] <;> assumption
        obtain ⟨_, U, hU, eU⟩ := gw
        rw [cl who, cl p, eU, ways_w S2.2.1 O hp, z_and, U_own O (PLX_ok O (G.2 who hw2).1) hU hp, ee]
        refine m_firstIn (Nat.ne_of_gt (Nat.two_pow_pos _)) (Nat.pow_lt_pow_right (by decide) e24) ?_
        rw [low_pow (by omega)]
        exact m_told e24 (hQ h2 (FpThr.tr F2))
      by_cases m : mnA (rowM h) p = true
      · rw [if_pos m] at hwho ⊢
        exact brF (by decide) (go 1 (by rw [hwho]; rfl))
      · rw [if_neg m] at hwho ⊢
        exact brT rfl (go 0 (by rw [hwho]; rfl))
  · refine sim_q I k (-2) (fun Q hQ => ?_) (fun h1 Q I1 eR f1 hQ => ?_)
    · unfold C_best
      exact c_plN L O hx (brT' rfl (hQ h (Fp.rf _ h)))
    · unfold M_best
      rintro _ rfl
      exact m_plNi (a := rowM h) (by rw [sI_o (by decide)]; exact f1.1 99 1 rfl) O hx (brT' rfl (hQ _ FpThr))
theorem sim_plans {B : Int} {x y : Int32} : Sim B B (C_plans x y) (M_plans x y) := by
  intro h K I k
  obtain ⟨O, L⟩ : iLand h := I.1
  have h8 := O.1.2.1
  obtain ⟨w, t, hw, ht, ew, et, e0, e3⟩ := rowsAll I
  obtain ⟨val, Xs, G⟩ := GmA_ex O w
  by_cases hx : x = 0 ∨ x = 1
  · by_cases hy : ∃ p, p < nP (rowM h) ∧ y = nI p
    · obtain ⟨p, hp, rfl⟩ := hy
      obtain ⟨who, hwho, rfl⟩ := who_of hx
      refine sim_g I k (nI (cntA (rowM h) w who val p)) (fun Q hQ => ?_) (fun h1 Q I1 eR f1 hQ => ?_)
      · unfold C_plans C_isPlayer
        refine c_either (fun _ => ⟨Or.inr rfl, brF (by decide) (c_plY L O hp (brF' (by decide) ?_))⟩) (fun q => absurd hx q)
        rw [e3]
        refine c_solveI I hw G (fun h1 F1 g1 C1 => ?_)
        unfold Game_goodPlans
        rw [cl p]
        refine brF (nI_pos (by omega)) (pk_lt p 8 (fun _ => ?_) (fun c => absurd c (by omega)))
        obtain ⟨_, c84, c85, _⟩ := C1 p hp
        have w01 : who = 0 ∨ who = 1 := by omega
        rcases w01 with rfl | rfl
        · refine brF' (by decide) ⟨pk_in p 8 (by omega), ?_⟩
          rw [c85]; exact hQ h1 F1 g1
        · refine brT' rfl ⟨pk_in p 8 (by omega), ?_⟩
          rw [c84]; exact hQ h1 F1 g1
      · unfold M_plans
        rintro _ rfl
        refine m_either (fun _ => brF (by decide) (m_plY (a := rowM h) (by rw [sI_o (by decide)]; exact f1.1 99 1 rfl) O hp (brF' (by decide) ?_))) (fun q => absurd hx q)
        refine m_laysGame (a := rowM h) O (fun j => by rw [sI_o (by decide)]; exact f1.1 99 j rfl) ew G (fun h2 F2 S2 W2 G0 G1 => ?_)
        have e8 : (8 : Int32) * nI who + nI p = nI (8 * who + p) := by rw [show (8 : Int32) = nI 8 from rfl, pk_mul, nI_add]
        rw [e8, cl (8 * who + p)]
        refine ⟨pk_in (8 * who + p) 16 (by omega), ?_⟩
        have gw : GmW (rowM h) w who val Xs h2 := by
          have w01 : who = 0 ∨ who = 1 := by omega
          rcases w01 with z | z <;> rw [z] <;> assumption
        rw [gw.1 p hp]
        exact hQ h2 (FpThr.tr F2)
    · refine sim_q I k (-2) (fun Q hQ => ?_) (fun h1 Q I1 eR f1 hQ => ?_)
      · unfold C_plans C_isPlayer
        exact c_either (fun _ => ⟨Or.inr rfl, brF (by decide) (c_plN L O hy (brT' rfl (hQ h (Fp.rf _ h))))⟩) (fun q => absurd hx q)
      · unfold M_plans
        rintro _ rfl
        exact m_either (fun _ => brF (by decide) (m_plNi (a := rowM h) (by rw [sI_o (by decide)]; exact f1.1 99 1 rfl) O hy (brT' rfl (hQ _ FpThr)))) (fun q => absurd hx q)
  · refine sim_q I k (-2) (fun Q hQ => ?_) (fun h1 Q I1 eR f1 hQ => ?_)
    · unfold C_plans C_isPlayer
      exact c_either (fun q => absurd q hx) (fun _ => ⟨Or.inl rfl, brT rfl (hQ h (Fp.rf _ h))⟩)
    · unfold M_plans
      rintro _ rfl
      exact m_either (fun q => absurd q hx) (fun _ => brT rfl (hQ _ FpThr))
