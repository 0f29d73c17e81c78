/-! at, purse, round, paid, lists -/
def ixN (b c n : Nat) : Nat := if n < b then n else b + (n - b) % c
def rdN (b c n : Nat) : Nat := if n < b then 0 else (n - b) / c
theorem ix_lt {b c n n0 : Nat} (hb : b < n0) (hc : c = n0 - b) : ixN b c n < n0 := by
  unfold ixN
  split
  · omega
  · have := Nat.mod_lt (n - b) (show 0 < c by omega)
    omega
theorem c_index {h : Hp} {Q : Int32 → Hp → Prop} {b c n : Nat} (e4 : gI h 87 4 = nI b) (e5 : gI h 87 5 = nI c) (hb : b ≤ 8) (hc : 1 ≤ c ∧ c ≤ 8) (hn : n < 2 ^ 62) (k : Q (nI (ixN b c n)) h) : Going_index (lN n) h Q := by
  unfold Going_index
  rintro J rfl
  rw [e4, e5, nI_l (by omega), nI_l (by omega)]
  unfold ixN at k
  by_cases q : n < b
  · rw [if_pos q] at k
    refine brT (by rw [pk_lLT (by omega) (by omega)]; exact q) ?_
    unfold J9_min_f86c9
    dsimp only
    rw [e4, nI_l (by omega)]
    refine brF (by rw [pk_lLT (by omega) (by omega)]; omega) ?_
    unfold J9_max_f86c9
    by_cases z : 0 < n
    · refine brT (show lN 0 < lN n by rw [pk_lLT (by omega) (by omega)]; exact z) ?_
      show Q (lN n).toInt32 h
      rw [lN_i]; exact k
    · refine brF (show ¬ lN 0 < lN n by rw [pk_lLT (by omega) (by omega)]; exact z) ?_
      have : n = 0 := by omega
      subst this; exact k
  · rw [if_neg q] at k
    refine brF (by rw [pk_lLT (by omega) (by omega)]; exact q) ?_
    refine pk_le 1 c (fun _ => ⟨?_, ?_⟩) (fun q => absurd q (by omega))
    · intro e
      have e : lN c = lN 0 := e
      rw [pk_lEQ (by omega) (by omega)] at e
      omega
    · have hm := Nat.mod_lt (n - b) (show 0 < c by omega)
      rw [lN_sub (by omega), pk_lRem (by omega) (by omega) (by omega), lN_i, nI_add]
      exact k
theorem c_paidIn {h : Hp} {Q : Int32 → Hp → Prop} {i : Nat} (hi : i < 10) (k : Q (gI h 90 i) h) : Going_paidIn (nI i) h Q := by
  unfold Going_paidIn
  refine brF (nI_pos (by omega)) (pk_le 10 i (fun q => absurd q (by omega)) (fun _ => ⟨pk_in i 10 hi, ?_⟩))
  rw [cl i]; exact k
/-- what has been paid behind n moves -/
def vN (S : Nat → Int) (b c n : Nat) : Int := S (ixN b c n) + (rdN b c n : Int) * (S (b + c) - S b)
theorem mul_bd {r d R D : Int} (h0 : 0 ≤ r) (h1 : r ≤ R) (h2 : -D ≤ d) (h3 : d ≤ D) (h4 : 0 ≤ D) : -(R * D) ≤ r * d ∧ r * d ≤ R * D := by
  have a : r * D ≤ R * D := Int.mul_le_mul_of_nonneg_right h1 h4
  have b : r * d ≤ r * D := Int.mul_le_mul_of_nonneg_left h3 h0
  have c : r * (-D) ≤ r * d := Int.mul_le_mul_of_nonneg_left h2 h0
  rw [Int.mul_neg] at c
  omega
theorem rd_le (b c n : Nat) : rdN b c n ≤ n := by
  unfold rdN
  split
  · omega
  · exact Nat.le_trans (Nat.div_le_self _ _) (by omega)
theorem vN_bd {S : Nat → Int} {b c n n0 : Nat} (hS : ∀ i : Nat, -(99 * (i : Int)) ≤ S i ∧ S i ≤ 99 * i) (h8 : n0 ≤ 8) (hb : b < n0) (hc : c = n0 - b) (hn : n ≤ 1000000000000000) : (-1600 ≤ S (b + c) - S b ∧ S (b + c) - S b ≤ 1600) ∧ (-1600000000000000000 ≤ (rdN b c n : Int) * (S (b + c) - S b) ∧ (rdN b c n : Int) * (S (b + c) - S b) ≤ 1600000000000000000) ∧ (-800 ≤ S (ixN b c n) ∧ S (ixN b c n) ≤ 800) := by
  have i1 := ix_lt (n := n) hb hc
  have s1 := hS (b + c)
  have s2 := hS b
  have s3 := hS (ixN b c n)
  have r1 := rd_le b c n
  have d : -1600 ≤ S (b + c) - S b ∧ S (b + c) - S b ≤ 1600 := by omega
  have m := mul_bd (r := (rdN b c n : Int)) (d := S (b + c) - S b) (R := 1000000000000000) (D := 1600) (by omega) (by omega) d.1 d.2 (by omega)
  exact ⟨d, by omega, by omega⟩
theorem c_paidBehind {h : Hp} {Q : Int64 → Hp → Prop} {S : Nat → Int} {b c n n0 : Nat} (e4 : gI h 87 4 = nI b) (e5 : gI h 87 5 = nI c) (e90 : ∀ i, i ≤ n0 → (gI h 90 i).toInt = S i) (hS : ∀ i : Nat, -(99 * (i : Int)) ≤ S i ∧ S i ≤ 99 * i) (h8 : n0 ≤ 8) (hb : b < n0) (hc : c = n0 - b) (hn : n ≤ 1000000000000000) (k : ∀ x : Int64, x.toInt = vN S b c n → Q x h) : Going_paidBehind (lN n) h Q := by
  obtain ⟨bd1, bd2, bd3⟩ := vN_bd (n := n) hS h8 hb hc hn
  have i1 := ix_lt (n := n) hb hc
  have rl := rd_le b c n
  unfold Going_paidBehind
  rintro J35 rfl J18 rfl
  have go : ∀ s1 : Int64, s1 = lN (rdN b c n) → Going_index (lN n) h (fun r3 h4 => Going_paidIn r3 h4 (fun r5 h6 => Going_paidIn ((gI h6 87 4) + (gI h6 87 5)) h6 (fun r7 h8 => Going_paidIn (gI h8 87 4) h8 (fun r9 h10 => Q (((r5).toInt64) + (s1 * (((r7 - r9)).toInt64))) h10)))) := by
    rintro s1 rfl
    refine c_index e4 e5 (by omega) (by omega) (by omega) (c_paidIn (by omega) ?_)
    rw [e4, e5, nI_add]
    refine c_paidIn (by omega) ?_
    rw [e4]
    refine c_paidIn (by omega) (k _ ?_)
    have f1 := e90 (ixN b c n) (by omega)
    have f2 := e90 (b + c) (by omega)
    have f3 := e90 b (by omega)
    have g1 : (gI h 90 (b + c) - gI h 90 b).toInt = S (b + c) - S b := by rw [i_sub (by omega), f2, f3]
    have g2 : (lN (rdN b c n) * (gI h 90 (b + c) - gI h 90 b).toInt64).toInt = (rdN b c n : Int) * (S (b + c) - S b) := by
      rw [l_mul (by rw [i_l, g1, pk_lT (by omega)]; omega), i_l, g1, pk_lT (by omega)]
    rw [l_add (by rw [i_l, f1, g2]; omega), i_l, f1, g2]
    rfl
  rw [e4, e5, nI_l (by omega), nI_l (by omega)]
  by_cases q : n < b
  · refine brT (by rw [pk_lLT (by omega) (by omega)]; exact q) (go _ ?_)
    unfold rdN; rw [if_pos q]; rfl
  · refine brF (by rw [pk_lLT (by omega) (by omega)]; exact q) (pk_le 1 c (fun _ => ⟨?_, go _ ?_⟩) (fun q => absurd q (by omega)))
    · intro e
      have e : lN c = lN 0 := e
      rw [pk_lEQ (by omega) (by omega)] at e
      omega
    · unfold rdN; rw [if_neg q, lN_sub (by omega), pk_lDiv (by omega) (by omega) (by omega)]
theorem m_placeIn {h : Hp} {Q : Int32 → Hp → Prop} {b c n n0 : Nat} (e4 : gI h 98 36 = nI b) (e5 : gI h 98 37 = nI c) (h8 : n0 ≤ 8) (hb : b < n0) (hc : c = n0 - b) (hn : n < 2 ^ 62) (k : Q (gI h 119 (ixN b c n)) h) : M_placeIn (lN n) h Q := by
  have i1 := ix_lt (n := n) hb hc
  unfold M_placeIn
  rintro J rfl
  rw [e4, e5, nI_l (by omega), nI_l (by omega)]
  unfold ixN at k i1
  by_cases q : n < b
  · rw [if_pos q] at k i1
    refine brF (by rw [pk_lLE (by omega) (by omega)]; omega) ?_
    rw [lN_i]
    refine ⟨pk_in n 9 (by omega), ?_⟩
    rw [cl n]; exact k
  · rw [if_neg q] at k i1
    refine brT (by rw [pk_lLE (by omega) (by omega)]; omega) ⟨?_, ?_⟩
    · intro e
      have e : lN c = lN 0 := e
      rw [pk_lEQ (by omega) (by omega)] at e
      omega
    · rw [lN_sub (by omega), pk_lRem (by omega) (by omega) (by omega), lN_i, nI_add]
      refine ⟨pk_in (b + (n - b) % c) 9 (by omega), ?_⟩
      rw [cl (b + (n - b) % c)]; exact k
theorem m_purseIn {h : Hp} {Q : Int64 → Hp → Prop} {S : Nat → Int} {b c n n0 : Nat} (e4 : gI h 98 36 = nI b) (e5 : gI h 98 37 = nI c) (e120 : ∀ i, i ≤ n0 → (gJ h 120 i).toInt = S i) (hS : ∀ i : Nat, -(99 * (i : Int)) ≤ S i ∧ S i ≤ 99 * i) (h8 : n0 ≤ 8) (hb : b < n0) (hc : c = n0 - b) (hn : n ≤ 1000000000000000) (k : ∀ x : Int64, x.toInt = (gI h 99 59).toInt + vN S b c n → Q x h) : M_purseIn (lN n) h Q := by
  obtain ⟨bd1, bd2, bd3⟩ := vN_bd (n := n) hS h8 hb hc hn
  have i1 := ix_lt (n := n) hb hc
  have rl := rd_le b c n
  have pb := i_bd (gI h 99 59)
  have f1 := e120 (ixN b c n) (by omega)
  have f2 := e120 (b + c) (by omega)
  have f3 := e120 b (by omega)
  unfold M_purseIn
  rw [e4, e5, nI_l (by omega), nI_l (by omega)]
  by_cases q : n < b
  · refine brF (by rw [pk_lLE (by omega) (by omega)]; omega) ?_
    rw [lN_i]
    refine ⟨pk_in n 9 (by omega), ?_⟩
    rw [cl n]
    refine k _ ?_
    have ei : ixN b c n = n := if_pos q
    have er : rdN b c n = 0 := if_pos q
    rw [ei] at f1 bd3
    unfold vN
    rw [ei, er, l_add (by rw [i_l, f1]; omega), i_l, f1]
    simp
  · refine brT (by rw [pk_lLE (by omega) (by omega)]; omega) ⟨?_, ?_⟩
    · intro e
      have e : lN c = lN 0 := e
      rw [pk_lEQ (by omega) (by omega)] at e
      omega
    · have ei : ixN b c n = b + (n - b) % c := if_neg q
      have er : rdN b c n = (n - b) / c := if_neg q
      rw [lN_sub (by omega), pk_lDiv (by omega) (by omega) (by omega)]
      intro v1 hv1
      refine ⟨?_, ?_⟩
      · intro e
        have e : lN c = lN 0 := e
        rw [pk_lEQ (by omega) (by omega)] at e
        omega
      · have hm : lN (n - b) - lN ((n - b) / c) * lN c = lN ((n - b) % c) := by rw [← pk_lDiv (by omega) (by omega) (by omega)]; exact pk_lRem (by omega) (by omega) (by omega)
        rw [hm, lN_i, nI_add, nI_add, ← ei]
        intro v2 hv2
        rw [hv2]
        refine ⟨pk_in (b + c) 9 (by omega), pk_in b 9 (by omega), pk_in (ixN b c n) 9 (by omega), ?_⟩
        rw [cl (b + c), cl b, cl (ixN b c n) (by omega), hv1, ← er]
        refine k _ ?_
        have g1 : (gJ h 120 (b + c) - gJ h 120 b).toInt = S (b + c) - S b := by rw [l_sub (by omega), f2, f3]
        have g2 : (lN (rdN b c n) * (gJ h 120 (b + c) - gJ h 120 b)).toInt = (rdN b c n : Int) * (S (b + c) - S b) := by
          rw [l_mul (by rw [g1, pk_lT (by omega)]; omega), g1, pk_lT (by omega)]
        have g3 : ((gI h 99 59).toInt64 + lN (rdN b c n) * (gJ h 120 (b + c) - gJ h 120 b)).toInt = (gI h 99 59).toInt + (rdN b c n : Int) * (S (b + c) - S b) := by
          rw [l_add (by rw [i_l, g2]; omega), i_l, g2]
        rw [l_add (by rw [g3, f1]; omega), g3, f1]
        unfold vN
        omega
/-- both have gone the way -/
theorem going {B : Int} {h : Hp} (I : Inv B h) : ∃ n0 b w t, n0 ≤ 8 ∧ b < n0 ∧ GoI (rowM h) (stdM h) w t n0 b ∧ w < 10 ∧ rowM h 61 = nI w ∧ t < nP (rowM h) ∧ rowM h 58 = nI t ∧
    (∀ Q : Hp → Prop, (∀ h1, Fp scD h h1 → GoC h1 (rowM h) (stdM h) w t n0 b → Q h1) → Going_follow 20 h Q) ∧
    (∀ (h1 : Hp) (Q : Hp → Prop), (∀ j, gI h1 99 j = gI h 99 j) → (∀ h2, Fp scM h1 h2 → (∀ j, gI h2 99 j = rowM h j) → WaysM h2 (rowM h) w → GoM h2 (rowM h) (stdM h) w t n0 b → Q h2) → M_laysGoing h1 Q) := by
  obtain ⟨O, L⟩ := I.1
  obtain ⟨sO, sR⟩ : iStd B h := I.2.1
  obtain ⟨t, ht, et⟩ := sO.1
  obtain ⟨w, hw, ew⟩ := sO.2.1
  obtain ⟨n0, b, G⟩ := GoI_ex (s := stdM h) (w := w) O ht
  refine ⟨n0, b, w, t, G.1, G.2.1, G, hw, ew, ht, et, fun Q hQ => ?_, fun h1 Q e hQ => ?_⟩
  · exact c_follow L O sR sO ht et hw ew G I.2.2.2.2.2.2.2.2 (fun h1 f1 g1 => hQ h1 (f1.mo oGo_D) g1)
  · exact m_going (a := rowM h) O e sO ht et hw ew G (fun h2 f2 g2 z2 go => hQ h2 f2 g2 z2 go)
theorem sim_at {B : Int} {x : Int64} : Sim B B (C_at x) (M_at x) := by
  intro h K I k
  obtain ⟨n0, b, w, t, h8, hb, G, hw, ew, ht, et, cF, mF⟩ := going I
  have l0 : (0 : Int64).toInt = 0 := rfl
  have lM : (1000000000000000 : Int64).toInt = 1000000000000000 := rfl
  by_cases hx : 0 ≤ x.toInt ∧ x.toInt ≤ 1000000000000000
  · obtain ⟨n, hn⟩ : ∃ n : Nat, x.toInt = n := ⟨x.toInt.toNat, by omega⟩
    have ex : x = lN n := Int64.toInt_inj.mp (by rw [pk_lT (by omega)]; exact hn)
    have i1 := ix_lt (n := n) hb rfl
    refine sim_q I k (nI (pO (rowM h) (stdM h) w t (ixN b (n0 - b) n))) (fun Q hQ => ?_) (fun h1 Q I1 eR f1 hQ => ?_)
    · unfold C_at
      refine brF (by rw [l_lt]; omega) (brT (by rw [l_le]; omega) (cF _ (fun h1 f1 g => ?_)))
      rw [ex]
      unfold Going_placeBehind
      refine c_index g.1 g.2.1 (by omega) (by omega) (by omega) (brF (nI_pos (by omega)) (pk_le 9 (ixN b (n0 - b) n) (fun q => absurd q (by omega)) (fun _ => ⟨pk_in (ixN b (n0 - b) n) 9 (by omega), ?_⟩) (hb := by omega)))
      rw [cl (ixN b (n0 - b) n) (by omega), (g.2.2.1 _ i1).1]
      exact hQ h1 f1
    · unfold M_at
      rintro _ rfl
      refine m_inY (by omega) (by omega) (brF' (by decide) (mF _ _ (fun j => by rw [sI_o (by decide)]; exact f1.1 99 j (scD_hi (by omega))) (fun h2 f2 g2 z2 go => ?_)))
      rw [ex]
      refine m_placeIn go.1 go.2.1 h8 hb rfl (by omega) ?_
      rw [(go.2.2 _ (by omega)).1]
      exact hQ h2 (FpThr.tr f2)
  · refine sim_q I k (-3) (fun Q hQ => ?_) (fun h1 Q I1 eR f1 hQ => ?_)
    · have := hQ h (Fp.rf _ h)
      unfold C_at
      refine ⟨fun _ => this, fun q => ⟨fun q2 => ?_, fun _ => this⟩⟩
      rw [l_lt] at q
      rw [l_le] at q2
      exact absurd ⟨by omega, by omega⟩ hx
    · unfold M_at
      rintro _ rfl
      exact m_inN (by omega) (brT' rfl (hQ _ FpThr))
theorem c_either {h : Hp} {Q : Int32 → Hp → Prop} {x : Int32} (kY : x = 0 ∨ x = 1 → Q 1 h) (kN : ¬ (x = 0 ∨ x = 1) → Q 0 h) : C_isEither x h Q := by
  unfold C_isEither
  rintro J rfl
  refine ⟨fun q => kY (Or.inl q), fun q => ⟨fun q1 => kN (fun e => e.elim q q1), fun q1 => kY (Or.inr q1)⟩⟩
theorem m_either {h : Hp} {Q : Int32 → Hp → Prop} {x : Int32} (kY : x = 0 ∨ x = 1 → Q 1 h) (kN : ¬ (x = 0 ∨ x = 1) → Q 0 h) : M_within x.toInt64 0 1 h Q := by
  have l0 : (0 : Int64).toInt = 0 := rfl
  have l1 : (1 : Int64).toInt = 1 := rfl
  have i0 : (0 : Int32).toInt = 0 := by decide
  have i1 : (1 : Int32).toInt = 1 := by decide
  refine m_in (fun q1 q2 => kY ?_) (fun q => kN (fun e => q ?_))
  · rw [i_eq, i_eq]; omega
  · rw [i_eq, i_eq] at e; omega
theorem sim_round {B : Int} {x : Int32} : Sim B B (C_round x) (M_round x) := by
  intro h K I k
  obtain ⟨n0, b, w, t, h8, hb, G, hw, ew, ht, et, cF, mF⟩ := going I
  by_cases hx : x = 0 ∨ x = 1
  · refine sim_q I k (if x = 0 then nI b else nI (n0 - b)) (fun Q hQ => ?_) (fun h1 Q I1 eR f1 hQ => ?_)
    · unfold C_round
      refine c_either (fun _ => brF' (by decide) (cF _ (fun h1 f1 g => ?_))) (fun q => absurd hx q)
      have := hQ h1 f1
      rw [g.1, g.2.1]
      refine ⟨fun q => ?_, fun q => ?_⟩
      · rw [if_neg q] at this; exact this
      · rw [if_pos q] at this; exact this
    · unfold M_round
      rintro _ rfl
      refine m_either (fun _ => brF' (by decide) (mF _ _ (fun j => by rw [sI_o (by decide)]; exact f1.1 99 j (scD_hi (by omega))) (fun h2 f2 g2 z2 go => ?_))) (fun q => absurd hx q)
      have := hQ h2 (FpThr.tr f2)
      rw [go.1, go.2.1]
      refine ⟨fun q => ?_, fun q => ?_⟩
      · rw [if_neg q] at this; exact this
      · rw [if_pos q] at this; exact this
  · refine sim_q I k (-2) (fun Q hQ => ?_) (fun h1 Q I1 eR f1 hQ => ?_)
    · unfold C_round
      exact c_either (fun q => absurd q hx) (fun _ => brT' rfl (hQ h (Fp.rf _ h)))
    · unfold M_round
      rintro _ rfl
      exact m_either (fun q => absurd q hx) (fun _ => brT' rfl (hQ _ FpThr))
theorem sim_purse {B : Int} {x : Int64} : SimJ B B (C_purse x) (M_purse x) := by
  intro h K I k
  obtain ⟨sO, sR⟩ : iStd B h := I.2.1
  obtain ⟨n0, b, w, t, h8, hb, G, hw, ew, ht, et, cF, mF⟩ := going I
  have l0 : (0 : Int64).toInt = 0 := rfl
  have lM : (1000000000000000 : Int64).toInt = 1000000000000000 := rfl
  by_cases hx : 0 ≤ x.toInt ∧ x.toInt ≤ 1000000000000000
  · obtain ⟨n, hn⟩ : ∃ n : Nat, x.toInt = n := ⟨x.toInt.toNat, by omega⟩
    have ex : x = lN n := Int64.toInt_inj.mp (by rw [pk_lT (by omega)]; exact hn)
    obtain ⟨bd1, bd2, bd3⟩ := vN_bd (n := n) (pS_bd (rowM h) (stdM h) w t) h8 hb rfl (by omega)
    have pb := i_bd (stdM h 1)
    have vb : -1700000000000000000 ≤ vN (pS (rowM h) (stdM h) w t) b (n0 - b) n ∧ vN (pS (rowM h) (stdM h) w t) b (n0 - b) n ≤ 1700000000000000000 := by unfold vN; omega
    refine sim_qJ I k (Int64.ofInt ((stdM h 1).toInt + vN (pS (rowM h) (stdM h) w t) b (n0 - b) n)) (fun Q hQ => ?_) (fun h1 Q I1 eR f1 hQ => ?_)
    · unfold C_purse
      refine brF (by rw [l_lt]; omega) (brT (by rw [l_le]; omega) (cF _ (fun h1 f1 g => ?_)))
      rw [ex]
      refine c_paidBehind g.1 g.2.1 g.2.2.2 (pS_bd (rowM h) (stdM h) w t) h8 hb rfl (by omega) (fun y hy => ?_)
      have := hQ h1 f1
      have e : gJ h1 20 1 + y = Int64.ofInt ((stdM h 1).toInt + vN (pS (rowM h) (stdM h) w t) b (n0 - b) n) := by
        have e1 : gJ h1 20 1 = (stdM h 1).toInt64 := (f1.2 20 1 (by rw [bdec (by omega) (by omega) (by omega)])).trans sR.2.1
        rw [e1, ← hy, ← i_l (stdM h 1), ← l_add (by rw [i_l]; omega), Int64.ofInt_toInt]
      rw [e]; exact this
    · unfold M_purse
      rintro _ rfl
      refine m_inY (by omega) (by omega) (brF' (by decide) (mF _ _ (fun j => by rw [sI_o (by decide)]; exact f1.1 99 j (scD_hi (by omega))) (fun h2 f2 g2 z2 go => ?_)))
      rw [ex]
      refine m_purseIn go.1 go.2.1 (fun i hi => (go.2.2 i hi).2) (pS_bd (rowM h) (stdM h) w t) h8 hb rfl (by omega) (fun y hy => ?_)
      have := hQ h2 (FpThr.tr f2)
      have e : y = Int64.ofInt ((stdM h 1).toInt + vN (pS (rowM h) (stdM h) w t) b (n0 - b) n) := by
        rw [g2 59] at hy
        have hy : y.toInt = (stdM h 1).toInt + _ := hy
        rw [← hy, Int64.ofInt_toInt]
      rw [e]; exact this
  · refine sim_qJ I k (-9000000000000000003) (fun Q hQ => ?_) (fun h1 Q I1 eR f1 hQ => ?_)
    · have := hQ h (Fp.rf _ h)
      unfold C_purse
      refine ⟨fun _ => this, fun q => ⟨fun q2 => ?_, fun _ => this⟩⟩
      rw [l_lt] at q
      rw [l_le] at q2
      exact absurd ⟨by omega, by omega⟩ hx
    · unfold M_purse
      rintro _ rfl
      exact m_inN (by omega) (brT' rfl (hQ _ FpThr))
/-- of moves alike the first or the last pays least -/
theorem vN_mid {S : Nat → Int} {b c n k : Nat} (hc : 1 ≤ c) (hk : k ≤ n) (h1 : b + c < k) : (∃ j, j ≤ b + c ∧ vN S b c j ≤ vN S b c k) ∨ (∃ j, n - c ≤ j ∧ j ≤ n ∧ vN S b c j ≤ vN S b c k) := by
  rcases (show 0 ≤ S (b + c) - S b ∨ S (b + c) - S b < 0 by omega) with q | q
  · left
    have hm := Nat.mod_lt (k - b) (show 0 < c by omega)
    refine ⟨b + (k - b) % c, by omega, ?_⟩
    unfold vN ixN rdN
    rw [if_neg (by omega), if_neg (by omega), if_neg (by omega), if_neg (by omega), show b + (k - b) % c - b = (k - b) % c by omega, Nat.mod_mod, Nat.div_eq_of_lt hm]
    have := Int.mul_nonneg (Int.natCast_nonneg ((k - b) / c)) q
    rw [show ((0 : Nat) : Int) * (S (b + c) - S b) = 0 by simp]
    generalize (((k - b) / c : Nat) : Int) * (S (b + c) - S b) = y at *
    omega
  · right
    have hd := Nat.div_add_mod (n - k) c
    have hm := Nat.mod_lt (n - k) (show 0 < c by omega)
    refine ⟨k + c * ((n - k) / c), by omega, by omega, ?_⟩
    unfold vN ixN rdN
    rw [if_neg (by omega), if_neg (by omega), if_neg (by omega), if_neg (by omega), show k + c * ((n - k) / c) - b = (k - b) + c * ((n - k) / c) by omega, Nat.add_mul_mod_self_left, Nat.add_mul_div_left _ _ (by omega)]
    have : (((n - k) / c : Nat) : Int) * (S (b + c) - S b) ≤ 0 := Int.mul_nonpos_of_nonneg_of_nonpos (Int.natCast_nonneg _) (by omega)
    rw [Int.natCast_add, Int.add_mul]
    generalize (((n - k) / c : Nat) : Int) * (S (b + c) - S b) = y at *
    generalize (((k - b) / c : Nat) : Int) * (S (b + c) - S b) = z at *
    omega
theorem vN_0 {S : Nat → Int} {b c : Nat} (hc : 1 ≤ c) (h0 : S 0 = 0) : vN S b c 0 = 0 := by
  unfold vN ixN rdN
  by_cases q : 0 < b
  · rw [if_pos q, if_pos q, h0]; simp
  · have : b = 0 := by omega
    subst this
    rw [if_neg (by omega), if_neg (by omega)]
    simp [h0]
theorem sim_paid {B : Int} {x : Int32} : SimJ B B (C_paid x) (M_paid x) := by
  intro h K I k
  obtain ⟨sO, sR⟩ : iStd B h := I.2.1
  obtain ⟨n0, b, w, t, h8, hb, G, hw, ew, ht, et, cF, mF⟩ := going I
  have i0 : (0 : Int32).toInt = 0 := by decide
  have iM : (9999 : Int32).toInt = 9999 := by decide
  by_cases hx : 0 ≤ x.toInt ∧ x.toInt ≤ 9999
  · obtain ⟨n, hn⟩ : ∃ n : Nat, x.toInt = n := ⟨x.toInt.toNat, by omega⟩
    have ex : x = nI n := by rw [nI_i x (by omega), hn]; rfl
    obtain ⟨V, hV⟩ : ∃ V : Nat → Int, ∀ j, vN (pS (rowM h) (stdM h) w t) b (n0 - b) j = V j := ⟨_, fun _ => rfl⟩
    have vb : ∀ j, j ≤ 9999 → -1700000000000000000 ≤ V j ∧ V j ≤ 1700000000000000000 := fun j hj => by
      obtain ⟨bd1, bd2, bd3⟩ := vN_bd (n := j) (pS_bd (rowM h) (stdM h) w t) h8 hb rfl (by omega)
      rw [← hV]; unfold vN; omega
    have V0 : V 0 = 0 := by rw [← hV]; exact vN_0 (by omega) rfl
    have pb := i_bd (stdM h 1)
    have n9 : n ≤ 9999 := by omega
    refine sim_qJ I k (Int64.ofInt ((stdM h 1).toInt + mnI V n)) (fun Q hQ => ?_) (fun h1 Q I1 eR f1 hQ => ?_)
    · unfold C_paid
      refine brF (by rw [i_lt]; omega) (brT (by rw [i_le]; omega) (cF _ (fun h1 f1 g => ?_)))
      rw [ex]
      have cB : ∀ {R : Int64 → Hp → Prop} {j : Nat}, j ≤ 9999 → (∀ y : Int64, y.toInt = V j → R y h1) → Going_paidBehind ((nI j).toInt64) h1 R := fun {R j} hj r => by
        rw [nI_l (by omega)]
        exact c_paidBehind g.1 g.2.1 g.2.2.2 (pS_bd (rowM h) (stdM h) w t) h8 hb rfl (by omega) (fun y hy => r y (hy.trans (hV j)))
      have mn : ∀ {P : Int64 → Hp → Prop} {x y : Int64}, (∀ z : Int64, (z = x ∨ z = y) → z.toInt ≤ x.toInt → z.toInt ≤ y.toInt → P z h1) → J9_min_f86c9 x y h1 P := fun p => ⟨fun q => p _ (Or.inr rfl) (by rw [l_lt] at q; omega) (Int.le_refl _), fun q => p _ (Or.inl rfl) (Int.le_refl _) (by rw [l_lt] at q; omega)⟩
      unfold Going_leastPaid
      have fin : ∀ l : Int64, (∃ j, j ≤ n ∧ l.toInt = V j) → (∀ j, j ≤ n → l.toInt ≤ V j) → Q (gJ h1 20 1 + l) h1 := by
        intro l he hl
        have := hQ h1 f1
        obtain ⟨j, j1, j2⟩ := he
        obtain ⟨m, m1, m2⟩ := mnI_ex V n
        have a1 := mnI_le V n j j1
        have a2 := hl m m1
        have e : gJ h1 20 1 + l = Int64.ofInt ((stdM h 1).toInt + mnI V n) := by
          have e1 : gJ h1 20 1 = (stdM h 1).toInt64 := (f1.2 20 1 (by rw [bdec (by omega) (by omega) (by omega)])).trans sR.2.1
          have vj := vb j (by omega)
          rw [e1, show mnI V n = l.toInt by omega, ← i_l (stdM h 1), ← l_add (by rw [i_l]; omega), Int64.ofInt_toInt]
        rw [e]; exact this
      have second : ∀ l : Int64, (∃ j, j ≤ n ∧ l.toInt = V j) → (∀ j, j ≤ n → j ≤ n0 → l.toInt ≤ V j) → J9_max_7cf53 0 (nI n - gI h1 87 5) h1 (fun r9 h10 => ∃ n16, Going_leastPaid_L55 (nI n) (fun r2 h3 => Q (gJ h1 20 1 + r2) h3) n16 l r9 h10) := by
        intro l he hl
        rw [g.2.1]
        have start : J9_max_7cf53 0 (nI n - nI (n0 - b)) h1 (fun r9 h10 => ∃ n16, Going_leastPaid_L55 (nI n) (fun r2 h3 => Q (gJ h1 20 1 + r2) h3) n16 l r9 h10) ↔ ∃ n16, Going_leastPaid_L55 (nI n) (fun r2 h3 => Q (gJ h1 20 1 + r2) h3) n16 l (nI (n - (n0 - b))) h1 := by
          unfold J9_max_7cf53
          by_cases q : n0 - b ≤ n
          · rw [pk_sub q]
            by_cases z : 0 < n - (n0 - b)
            · have : (0 : Int32) < nI (n - (n0 - b)) := nI_lt (a := 0) z (by omega)
              exact ⟨fun e => e.1 this, fun e => ⟨fun _ => e, fun c => absurd this c⟩⟩
            · have z0 : n - (n0 - b) = 0 := by omega
              rw [z0]
              have : ¬ (0 : Int32) < nI 0 := by decide
              exact ⟨fun e => e.2 this, fun e => ⟨fun c => absurd c this, fun _ => e⟩⟩
          · have z0 : n - (n0 - b) = 0 := by omega
            have : ¬ (0 : Int32) < nI n - nI (n0 - b) := by
              have := pk_sneg (a := n) (b := n0 - b) (by omega) (by omega)
              rw [i_lt] at this ⊢
              omega
            rw [z0]
            exact ⟨fun e => e.2 this, fun e => ⟨fun c => absurd c this, fun _ => e⟩⟩
        rw [start]
        refine pk_loop (σ := Int64) (fun n' i l => Going_leastPaid_L55 (nI n) (fun r2 h3 => Q (gJ h1 20 1 + r2) h3) n' l (nI i) h1) (fun i l => (∃ j, j ≤ n ∧ l.toInt = V j) ∧ (∀ j, j ≤ n → j ≤ n0 → l.toInt ≤ V j) ∧ ∀ j, n - (n0 - b) ≤ j → j < i → l.toInt ≤ V j) (n + 1) (n - (n0 - b)) l (by omega) ⟨he, hl, fun j a b => absurd b (by omega)⟩ (fun n' l J => ?_) (fun n' i l hi J hk => ?_)
        · unfold Going_leastPaid_L55
          refine pk_lt n (n + 1) (fun _ => fin l J.1 (fun j hj => ?_)) (fun q => absurd q (by omega))
          by_cases c1 : j ≤ n0
          · exact J.2.1 j hj c1
          · by_cases c2 : n - (n0 - b) ≤ j
            · exact J.2.2 j c2 (by omega)
            · have vm := vN_mid (S := pS (rowM h) (stdM h) w t) (b := b) (c := n0 - b) (n := n) (k := j) (by omega) hj (by omega)
              rw [hV] at vm
              rcases vm with ⟨i, i1, i2⟩ | ⟨i, i1, i2, i3⟩
              · rw [hV] at i2
                have := J.2.1 i (by omega) (by omega)
                omega
              · rw [hV] at i3
                have := J.2.2 i i1 (by omega)
                omega
        · unfold Going_leastPaid_L55
          refine pk_lt n i (fun q => absurd q (by omega)) (fun _ => cB (by omega) (fun y hy => ?_))
          refine mn (fun z hz z1 z2 => ?_)
          rintro _ rfl
          rw [nI_1]
          refine hk z ⟨?_, fun j a b => by have := J.2.1 j a b; omega, fun j a b => ?_⟩
          · rcases hz with rfl | rfl
            · exact J.1
            · exact ⟨i, by omega, hy⟩
          · by_cases e : j = i
            · subst e; omega
            · have := J.2.2 j a (by omega); omega
      refine pk_loop (σ := Int64) (fun n' i l => Going_leastPaid_L5 (nI n) _ n' l (nI i) h1) (fun i l => (∃ j, j ≤ n ∧ l.toInt = V j) ∧ ∀ j, j < i → l.toInt ≤ V j) (min n n0 + 1) 0 0 (by omega) ⟨⟨0, by omega, V0.symm⟩, fun j hj => absurd hj (by omega)⟩ (fun n' l J => ?_) (fun n' i l hi J hk => ?_)
      · unfold Going_leastPaid_L5
        have sec := second l J.1 (fun j a b => J.2 j (by omega))
        refine pk_lt n (min n n0 + 1) (fun _ => sec) (fun q => ?_)
        rw [g.1, g.2.1, nI_add]
        exact pk_lt (b + (n0 - b)) (min n n0 + 1) (fun _ => by rw [g.2.1] at sec; exact sec) (fun q2 => absurd q2 (by omega))
      · unfold Going_leastPaid_L5
        refine pk_lt n i (fun q => absurd q (by omega)) (fun _ => ?_)
        rw [g.1, g.2.1, nI_add]
        refine pk_lt (b + (n0 - b)) i (fun q => absurd q (by omega)) (fun _ => cB (by omega) (fun y hy => ?_))
        refine mn (fun z hz z1 z2 => ?_)
        rintro _ rfl
        rw [nI_1]
        refine hk z ⟨?_, fun j a => ?_⟩
        · rcases hz with rfl | rfl
          · exact J.1
          · exact ⟨i, by omega, hy⟩
        · by_cases e : j = i
          · subst e; omega
          · have := J.2 j (by omega); omega
    · unfold M_paid
      rintro _ rfl
      rw [ex]
      refine m_inY (by rw [i_l, nI_toInt (by omega)]; show (0 : Int) ≤ _; omega) (by rw [i_l, nI_toInt (by omega)]; show _ ≤ (9999 : Int); omega) (brF' (by decide) (mF _ _ (fun j => by rw [sI_o (by decide)]; exact f1.1 99 j (scD_hi (by omega))) (fun h2 f2 g2 z2 go => ?_)))
      have e59 : gI h2 99 59 = stdM h 1 := g2 59
      have mB : ∀ {R : Int64 → Hp → Prop} {j : Nat}, j ≤ 9999 → (∀ y : Int64, y.toInt = (stdM h 1).toInt + V j → R y h2) → M_purseIn ((nI j).toInt64) h2 R := fun {R j} hj r => by
        rw [nI_l (by omega)]
        refine m_purseIn go.1 go.2.1 (fun i hi => (go.2.2 i hi).2) (pS_bd (rowM h) (stdM h) w t) h8 hb rfl (by omega) (fun y hy => r y ?_)
        rw [hy, e59, hV]
      rw [e59]
      intro v5 hv5
      refine pk_loop (σ := Int64) (fun n' i l => M_paid_L37 (nI n) Q n' l (nI i) h2) (fun i l => (∃ j, j ≤ n ∧ l.toInt = (stdM h 1).toInt + V j) ∧ ∀ j, j < i → l.toInt ≤ (stdM h 1).toInt + V j) (n + 1) 0 v5 (by omega) ⟨⟨0, by omega, by rw [hv5, i_l, V0]; omega⟩, fun j hj => absurd hj (by omega)⟩ (fun n' l J => ?_) (fun n' i l hi J hk => ?_)
      · unfold M_paid_L37
        refine pk_lt n (n + 1) (fun _ => ?_) (fun q => absurd q (by omega))
        have := hQ h2 (FpThr.tr f2)
        obtain ⟨⟨j, j1, j2⟩, hl⟩ := J
        obtain ⟨m, m1, m2⟩ := mnI_ex V n
        have a1 := mnI_le V n j j1
        have a2 := hl m (by omega)
        rw [show (stdM h 1).toInt + mnI V n = l.toInt by omega, Int64.ofInt_toInt] at this
        exact this
      · unfold M_paid_L37
        refine pk_lt n i (fun q => absurd q (by omega)) (fun _ => mB (by omega) (fun y hy => ?_))
        rintro J' rfl
        refine ⟨fun q => ?_, fun q => mB (by omega) (fun y' hy' => ?_)⟩
        · rintro _ rfl
          rw [nI_1]
          refine hk l ⟨J.1, fun j hj => ?_⟩
          by_cases e : j = i
          · subst e; rw [l_le] at q; omega
          · exact J.2 j (by omega)
        · rintro _ rfl
          rw [nI_1]
          refine hk y' ⟨⟨i, by omega, hy'⟩, fun j hj => ?_⟩
          by_cases e : j = i
          · subst e; omega
          · have := J.2 j (by omega); rw [l_le] at q; omega
  · refine sim_qJ I k (-9000000000000000003) (fun Q hQ => ?_) (fun h1 Q I1 eR f1 hQ => ?_)
    · have := hQ h (Fp.rf _ h)
      unfold C_paid
      refine ⟨fun _ => this, fun q => ⟨fun q2 => ?_, fun _ => this⟩⟩
      rw [i_lt] at q
      rw [i_le] at q2
      exact absurd ⟨by omega, by omega⟩ hx
    · unfold M_paid
      rintro _ rfl
      refine m_inN ?_ (brT' rfl (hQ _ FpThr))
      rw [i_l]
      have a1 : (0 : Int64).toInt = 0 := rfl
      have a2 : (9999 : Int64).toInt = 9999 := rfl
      omega
