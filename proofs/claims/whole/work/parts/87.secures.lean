/-! secures, meet -/
def PX (a : Row) (w : Nat) (s : Row) (who p : Nat) : Nat := if ownB (mnA a) who p = true then 2 ^ (wayP a w (s (4 + p)) p) else wys a w p
theorem PX_ok {a : Row} (O : LandOK a) (w : Nat) (s : Row) (who : Nat) : XOK a w (PX a w s who) := by
  have h8 := O.1.2.1
  intro p hp
  unfold PX
  by_cases c : ownB (mnA a) who p = true
  · rw [if_pos c]
    refine ⟨Nat.ne_of_gt (Nat.two_pow_pos _), fun e he => ?_⟩
    rw [tb_pow he]
    exact (wys_tb O).mpr (wayP_ok O (by omega) _)
  · rw [if_neg c]; exact XOK_w O w p hp
theorem own_i {a : Row} {who p : Nat} (hw : who < 2) : (if mnA a p then (1 : Int32) else 0) = nI who ↔ ownB (mnA a) who p = true := by
  unfold ownB
  have : who = 0 ∨ who = 1 := by omega
  rcases this with rfl | rfl <;> cases mnA a p <;> decide
theorem CX_own {a : Row} {w p e : Nat} {X : Nat → Nat} (we : wayOK a w p e) (hX : X p = 2 ^ e) : CX a w X p = 2 ^ tw e := by
  unfold CX tw
  rcases we with ⟨h1, h2, h3, h4⟩ | ⟨h1, rfl⟩
  · have : ¬ obs a w p = 0 := fun z => by
      have b := (obs_tb (a := a) (w := w) (p := p) (i := e)).mpr ⟨h2, h3, h4⟩
      rw [z, Nat.zero_testBit] at b; cases b
    rw [if_neg this, if_pos h1, hX]
  · rw [if_pos h1, if_neg (by omega)]
def o7 : Nat → Nat → Bool := fun o _ => decide (73 ≤ o) && decide (o ≤ 79)
theorem o7_n {o k : Nat} (h : o7 o k = false) : ¬ (73 ≤ o ∧ o ≤ 79) := by
  simp only [o7, Bool.and_eq_false_iff, decide_eq_false_iff_not] at h; omega
theorem o7_AW (o k : Nat) (h : o7 o k = false) : oAW o k = false := by
  have := o7_n h
  simp only [oAW, Bool.or_eq_false_iff, Bool.and_eq_false_iff, beq_eq_false_iff_ne]; omega
theorem o7_Lk (o k : Nat) (h : o7 o k = false) : oLk o k = false := by
  have := o7_n h
  simp only [oLk, Bool.or_eq_false_iff, Bool.and_eq_false_iff, beq_eq_false_iff_ne, decide_eq_false_iff_not]; omega
theorem scD_o7 (o k : Nat) (h : scD o k = false) : o7 o k = false := by
  have := scD_7 h
  simp only [o7, Bool.and_eq_false_iff, decide_eq_false_iff_not]; omega
theorem c_lookAtPlanOf {h : Hp} {Q : Hp → Prop} {a s : Row} {w who : Nat} (L : Lnd h a) (O : LandOK a) (hw : w < 10) (hwho : who < 2) (R : StdR h 20 21 s) (ew : s 3 = nI w) (hpl : ∀ p, p < 8 → plOK a (s (4 + p)) p) (k : ∀ h1, Fp o7 h h1 → SV a w (PX a w s who) h1 → LK a w (PX a w s who) h1 → Q h1) : C_lookAtPlanOf (nI who) h Q := by
  have h8 := O.1.2.1
  unfold C_lookAtPlanOf
  rw [R.2.2.2.1, ew]
  refine c_allWays L O hw (fun h1 f1 V1 e74 => ?_)
  have F1 : Fp oAW h h1 := f1
  refine pk_loop (σ := Hp) (fun n i h' => C_lookAtPlanOf_L20 (nI who) Q n (nI i) h') (fun i h' => Fq (fun o _ => o == 74) h1 h' ∧ ∀ p, p < 8 → gI h' 74 p = if p < i then nI (CX a w (PX a w s who) p) else nI (cwy a w p)) (nP a) 0 h1 (by omega) ⟨Fq.rf _ _, fun p hp => by rw [if_neg (by omega)]; exact e74 p hp⟩ (fun n h2 J => ?_) (fun n i h' hi J hk => ?_)
  · obtain ⟨F, j⟩ := J
    have L2 : Lnd h2 a := Lnd_k V1.1 (fun o j h1 h2 => F.1.1 o j (by rw [beq_eq_false_iff_ne]; omega))
    unfold C_lookAtPlanOf_L20
    rw [L2.1, O.1.2.2]
    have V2 : SV a w (PX a w s who) h2 := ⟨L2, (F.2 2).trans V1.2.1, (F.1.1 73 1 rfl).trans V1.2.2.1, fun p hp => by rw [j p (by omega), if_pos hp]⟩
    refine pk_le (nP a) (nP a) (fun _ => c_look O hw (PX_ok O w s who) V2 (fun h3 f3 K3 => k h3 (((F1.mo o7_AW).tr (F.1.mo (fun o k h => ?_))).tr (f3.1.mo o7_Lk)) (SV_k V2 f3 oLk_S) K3)) (fun c => absurd c (by omega))
    have := o7_n h
    rw [beq_eq_false_iff_ne]; omega
  · obtain ⟨F, j⟩ := J
    have L2 : Lnd h' a := Lnd_k V1.1 (fun o j h1 h2 => F.1.1 o j (by rw [beq_eq_false_iff_ne]; omega))
    have Rk : StdR h' 20 21 s := StdR_k R (fun x jj hx => by
      rw [F.1.1 x jj (by rw [beq_eq_false_iff_ne]; omega), F1.1 x jj (by simp only [oAW, Bool.or_eq_false_iff, Bool.and_eq_false_iff, beq_eq_false_iff_ne]; omega)]) ((F.1.2 20 1 rfl).trans (F1.2 20 1 rfl))
    unfold C_lookAtPlanOf_L20
    rw [L2.1, O.1.2.2]
    refine pk_le (nP a) i (fun c => absurd c (by omega)) (fun _ => c_own L2 O (by omega) ?_)
    rintro J63 rfl
    rw [own_i hwho]
    refine ⟨fun c => ?_, fun c => ?_⟩
    · rintro _ rfl
      rw [nI_1 i]
      refine hk h' ⟨F, fun p hp => ?_⟩
      rw [j p hp]
      by_cases e : p = i
      · subst e
        rw [if_neg (by omega), if_pos (by omega), ← CX_w]
        congr 1
        unfold CX
        by_cases z : obs a w p = 0
        · rw [if_pos z, if_pos z]
        · rw [if_neg z, if_neg z]; unfold PX; rw [if_neg c]
      · by_cases d : p < i
        · rw [if_pos d, if_pos (by omega)]
        · rw [if_neg d, if_neg (by omega)]
    · have we := wayP_ok O (w := w) (p := i) (by omega) (s (4 + i))
      have tl : tw (wayP a w (s (4 + i)) i) < 17 := by unfold tw; split <;> omega
      refine c_wayByPlan L2 O Rk rfl hw ew (by omega) (hpl i (by omega)) ?_
      unfold Survey_onlyWay
      refine brF (nI_pos (by omega)) (pk_le 8 i (fun c => absurd c (by omega)) (fun _ => ⟨pk_in i 8 (by omega), ?_⟩))
      rw [cl i, z_1 _ (by omega)]
      rintro _ rfl _ rfl
      rw [nI_1 i]
      refine hk _ ⟨Fq.sI F rfl, fun p hp => ?_⟩
      by_cases e : p = i
      · subst e
        rw [sI_s, if_pos (by omega), CX_own we (by unfold PX; rw [if_pos c])]
      · rw [sI_k e, j p hp]
        by_cases d : p < i
        · rw [if_pos d, if_pos (by omega)]
        · rw [if_neg d, if_neg (by omega)]
theorem c_securedBy {h : Hp} {Q : Int32 → Hp → Prop} {who p : Nat} (hwho : who < 2) (hp : p < 8) (k : Q (gI h (if who = 1 then 78 else 79) p) h) : Survey_securedBy (nI who) (nI p) h Q := by
  unfold Survey_securedBy
  rw [cl p]
  refine brF (nI_pos (by omega)) (pk_lt p 8 (fun _ => ?_) (fun c => absurd c (by omega)))
  have : who = 0 ∨ who = 1 := by omega
  rcases this with rfl | rfl
  · rw [if_neg (by decide)] at k
    exact brF' (by decide) ⟨pk_in p 8 hp, k⟩
  · rw [if_pos rfl] at k
    exact brT' rfl ⟨pk_in p 8 hp, k⟩
theorem LK_s {a : Row} {w who p : Nat} {X : Nat → Nat} {h : Hp} (K : LK a w X h) (hwho : who < 2) (hp : p < nP a) : (gI h (if who = 1 then 78 else 79) p).toInt = svA a w who (fun p => bl (X p)) p := by
  have := K.2.2 p hp
  have : who = 0 ∨ who = 1 := by omega
  rcases this with rfl | rfl
  · rw [if_neg (by decide)]; exact (K.2.2 p hp).2
  · rw [if_pos rfl]; exact (K.2.2 p hp).1
/-! the reference -/
def SecR (h : Hp) (a : Row) (w who : Nat) (X : Nat → Nat) : Prop := ∀ p, p < nP a → ∃ j R, gI h 117 p = nI j ∧ (rings (ttA a) (pIA a w) (wlA a w) (nP a))[j]? = some R ∧ mR R = svA a w who (fun p => bl (X p)) p
def o117 : Nat → Nat → Bool := fun o _ => o == 117
theorem scM_117 (o k : Nat) (h : scM o k = false) : o117 o k = false := by
  simp only [scM, Bool.or_eq_false_iff, Bool.and_eq_false_iff, decide_eq_false_iff_not] at h
  simp only [o117, beq_eq_false_iff_ne]; omega
theorem o117_W (o k : Nat) (h1 : 105 ≤ o) (h2 : o ≤ 108) : o117 o k = false := by
  simp only [o117, beq_eq_false_iff_ne]; omega
theorem o117_G (o k : Nat) (h : (o = 98 ∧ k = 28) ∨ (110 ≤ o ∧ o ≤ 113)) : o117 o k = false := by
  simp only [o117, beq_eq_false_iff_ne]; omega
theorem m_laysSecured {h0 : Hp} {Q : Hp → Prop} {a : Row} {w who U : Nat} {X : Nat → Nat} (O : LandOK a) (hX : XOK a w X) (hU : UX a X U) (hwho : who < 2) (e1 : gI h0 99 1 = a 1) (z0 : WaysM h0 a w) (r0 : RgM h0 (rings (ttA a) (pIA a w) (wlA a w) (nP a))) (k : ∀ h1, Fp o117 h0 h1 → SecR h1 a w who X → Q h1) : M_laysSecured (nI who) (nI U) h0 Q := by
  have h8 := O.1.2.1
  have ln := (RgOK_A O w).1
  unfold M_laysSecured
  refine pk_loop (σ := Hp) (fun n i h => M_laysSecured_L2 (nI who) (nI U) Q n (nI i) h) (fun i h => Fp o117 h0 h ∧ ∀ p, p < i → ∃ j R, gI h 117 p = nI j ∧ (rings (ttA a) (pIA a w) (wlA a w) (nP a))[j]? = some R ∧ mR R = svA a w who (fun p => bl (X p)) p) (nP a) 0 h0 (by omega) ⟨Fp.rf _ _, fun p hp => absurd hp (by omega)⟩ (fun n h1 J => ?_) (fun n i h hi J hk => ?_)
  · unfold M_laysSecured_L2
    rw [J.1.1 99 1 rfl, e1, O.1.2.2]
    exact pk_le (nP a) (nP a) (fun _ => k h1 J.1 J.2) (fun c => absurd c (by omega))
  · have z := ways_k J.1 o117_W z0
    have r := RgM_k r0 J.1 o117_G
    unfold M_laysSecured_L2
    rw [J.1.1 99 1 rfl, e1, O.1.2.2]
    refine pk_le (nP a) i (fun c => absurd c (by omega)) (fun _ => m_comesBy O z hX hU hi (fun rr rl hr => ?_))
    rintro J34 rfl
    have fin : ∀ s : Int32, (who = 1 ∧ s = 0) ∨ (who = 0 ∧ s = 1) → M_ringBy (nI rr) (nI U) s h (fun r5 h6 => vp_in (nI i) 8 ∧ ∀ h7 : Hp, h7 = sI h6 117 (nI i).toNatClampNeg r5 → ∀ v8 : Int32, v8 = (nI i + 1) → M_laysSecured_L2 (nI who) (nI U) Q n v8 h7) := fun s hs =>
      m_secRing O hX hU hi r rl hr hs (fun j R hj e => ⟨pk_in i 8 (by omega), by
        rw [cl i]
        rintro _ rfl _ rfl
        rw [nI_1 i]
        refine hk _ ⟨Fp.sI J.1 rfl, fun p hp => ?_⟩
        by_cases c : p = i
        · subst c; exact ⟨j, R, by rw [sI_s], hj, e⟩
        · rw [sI_k c]; exact J.2 p (by omega)⟩)
    have : who = 0 ∨ who = 1 := by omega
    rcases this with rfl | rfl
    · exact brT' rfl (fin 1 (Or.inr ⟨rfl, rfl⟩))
    · exact brF' (by decide) (fin 0 (Or.inl ⟨rfl, rfl⟩))
theorem m_laysSet {h0 : Hp} {Q : Hp → Prop} {a s : Row} {w who : Nat} (O : LandOK a) (hwho : who < 2) (g99 : ∀ j, gI h0 99 j = a j) (es : ∀ p, p < 8 → a (62 + p) = s (4 + p)) (hpl : ∀ p, p < 8 → plOK a (s (4 + p)) p) (z0 : WaysM h0 a w) (r0 : RgM h0 (rings (ttA a) (pIA a w) (wlA a w) (nP a))) (k : ∀ h1, Fp o117 h0 h1 → SecR h1 a w who (PX a w s who) → Q h1) : M_laysSet (nI who) h0 Q := by
  have h8 := O.1.2.1
  unfold M_laysSet
  refine pk_loop (σ := Nat) (fun n i U => M_laysSet_L4 (nI who) Q n (nI U) (nI i) h0) (fun i U => U < 2 ^ 24 ∧ ∀ e, U.testBit e = true ↔ ∃ q, q < i ∧ (PX a w s who q).testBit e = true) (nP a) 0 0 (by omega) ⟨by decide, fun e => ⟨fun b => (by rw [Nat.zero_testBit] at b; cases b), fun ⟨q, hq, _⟩ => absurd hq (by omega)⟩⟩ (fun n U J => ?_) (fun n i U hi J hk => ?_)
  · unfold M_laysSet_L4
    rw [g99, O.1.2.2]
    exact pk_le (nP a) (nP a) (fun _ => m_laysSecured O (PX_ok O w s who) J hwho (g99 1) z0 r0 k) (fun c => absurd c (by omega))
  · unfold M_laysSet_L4
    rw [g99, O.1.2.2]
    refine pk_le (nP a) i (fun c => absurd c (by omega)) (fun _ => m_mine (a := a) (g99 3) O (by omega) ?_)
    rintro J30 rfl
    have nxt : ∀ (v : Nat), v = PX a w s who i → v < 2 ^ 24 → ∀ v8 : Int32, v8 = (nI U ||| nI v) → ∀ v9 : Int32, v9 = (nI i + 1) → M_laysSet_L4 (nI who) Q n v8 v9 h0 := by
      rintro v hv vl _ rfl _ rfl
      rw [nI_1 i, z_or]
      refine hk _ ⟨Nat.or_lt_two_pow J.1 vl, fun e => ?_⟩
      rw [Nat.testBit_or, Bool.or_eq_true, J.2, hv]
      constructor
      · rintro (⟨q, hq, hb⟩ | hb)
        · exact ⟨q, by omega, hb⟩
        · exact ⟨i, by omega, hb⟩
      · rintro ⟨q, hq, hb⟩
        by_cases c : q = i
        · subst c; exact Or.inr hb
        · exact Or.inl ⟨q, by omega, hb⟩
    have main : ∀ s4 : Int32, s4 = nI who → (∀ J49 : Int32 → Hp → Prop, J49 = (fun s6 h7 => ∀ v8 : Int32, v8 = (nI U ||| s6) → ∀ v9 : Int32, v9 = (nI i + 1) → M_laysSet_L4 (nI who) Q n v8 v9 h7) → (¬ (if mnA a i then (1 : Int32) else 0) = s4 → vp_in (nI i) 8 ∧ J49 (gI h0 108 (nI i).toNatClampNeg) h0) ∧ ((if mnA a i then (1 : Int32) else 0) = s4 → M_planned (nI i) h0 (fun r10 h11 => J49 ((1 : Int32) <<< (r10 &&& 31)) h11))) := by
      rintro _ rfl J49 rfl
      rw [own_i hwho]
      refine ⟨fun c => ⟨pk_in i 8 (by omega), ?_⟩, fun c => ?_⟩
      · rw [cl i, ways_w z0 O hi]
        exact nxt _ (by unfold PX; rw [if_neg c]) (wys_lt O (by omega)).1
      · refine m_planned O z0.1 hi ((g99 (62 + i)).trans (es i (by omega))) (hpl i (by omega)) ?_
        have w24 := way24 O (show i < 8 by omega) (wayP_ok O (w := w) (p := i) (by omega) (s (4 + i)))
        rw [z_1 _ (by omega)]
        exact nxt _ (by unfold PX; rw [if_pos c]) (Nat.pow_lt_pow_right (by decide) w24)
    have : who = 0 ∨ who = 1 := by omega
    rcases this with rfl | rfl
    · exact brF' (by decide) (main 0 rfl)
    · exact brT' rfl (main 1 rfl)
theorem stdPl {B : Int} {h : Hp} (I : Inv B h) : ∀ p, p < 8 → plOK (rowM h) (stdM h (4 + p)) p := I.2.1.1.2.2.1
theorem std62 (h : Hp) : ∀ p, p < 8 → rowM h (62 + p) = stdM h (4 + p) := fun p _ => by
  show gI h 99 (62 + p) = gI h 99 (58 + (4 + p))
  congr 1; omega
theorem who_of {x : Int32} (hx : x = 0 ∨ x = 1) : ∃ who, who < 2 ∧ x = nI who := hx.elim (fun e => ⟨0, by omega, e⟩) (fun e => ⟨1, by omega, e⟩)
theorem sim_secures {B : Int} {x z y : Int32} : SimJ B B (C_secures x z y) (M_secures x z y) := by
  intro h K I k
  obtain ⟨O, L⟩ : iLand h := I.1
  have h8 := O.1.2.1
  obtain ⟨w, t, hw, ht, ew, et, e0, e3⟩ := rowsAll I
  by_cases hx : x = 0 ∨ x = 1
  · by_cases hz : ∃ p, p < nP (rowM h) ∧ z = nI p
    · obtain ⟨p, hp, rfl⟩ := hz
      by_cases hy : y = 0 ∨ y = 1
      · obtain ⟨who, hwho, rfl⟩ := who_of hx
        refine sim_qJ I k (lowT (Int64.ofInt (svA (rowM h) w who (fun p => bl (PX (rowM h) w (stdM h) who p)) p)) 840 y) (fun Q hQ => ?_) (fun h1 Q I1 eR f1 hQ => ?_)
        · unfold C_secures C_isPlayer
          refine c_either (fun _ => ⟨Or.inr rfl, brF (by decide) (c_plY L O hp (brF (by decide) (c_either (fun _ => brF' (by decide) ?_) (fun q => absurd hy q))))⟩) (fun q => absurd hx q)
          refine c_lookAtPlanOf L O hw hwho I.2.1.2 ew (stdPl I) (fun h1 f1 V1 K1 => c_securedBy hwho (by omega) ?_)
          exact c_low840 (LK_s K1 hwho hp) (hQ h1 (f1.mo scD_o7))
        · unfold M_secures
          rintro _ rfl
          refine m_either (fun _ => brF (by decide) (m_plY (a := rowM h) (by rw [sI_o (by decide)]; exact f1.1 99 1 rfl) O hp (brF (by decide) (m_either (fun _ => brF' (by decide) ?_) (fun q => absurd hy q))))) (fun q => absurd hx q)
          refine m_laysRings (a := rowM h) O (fun j => by rw [sI_o (by decide)]; exact f1.1 99 j rfl) ew (fun h2 f2 g2 z2 r2 => ?_)
          refine m_laysSet (s := stdM h) O hwho g2 (std62 h) (stdPl I) z2 r2 (fun h3 f3 S3 => ⟨pk_in p 8 (by omega), ?_⟩)
          obtain ⟨j, R, ej, hj, eR'⟩ := S3 p hp
          rw [cl p, ej]
          refine m_meanOf (RgM_k r2 f3 o117_G) (RgOK_A O w) hj ?_
          rw [eR']
          exact hQ h3 ((FpThr.tr f2).tr (f3.mo scM_117))
      · refine sim_qJ I k (-9000000000000000002) (fun Q hQ => ?_) (fun h1 Q I1 eR f1 hQ => ?_)
        · unfold C_secures C_isPlayer
          exact c_either (fun _ => ⟨Or.inr rfl, brF (by decide) (c_plY L O hp (brF (by decide) (c_either (fun q => absurd q hy) (fun _ => brT' rfl (hQ h (Fp.rf _ h))))))⟩) (fun q => absurd hx q)
        · unfold M_secures
          rintro _ rfl
          exact m_either (fun _ => brF (by decide) (m_plY (a := rowM h) (by rw [sI_o (by decide)]; exact f1.1 99 1 rfl) O hp (brF (by decide) (m_either (fun q => absurd q hy) (fun _ => brT' rfl (hQ _ FpThr)))))) (fun q => absurd hx q)
    · refine sim_qJ I k (-9000000000000000002) (fun Q hQ => ?_) (fun h1 Q I1 eR f1 hQ => ?_)
      · unfold C_secures C_isPlayer
        exact c_either (fun _ => ⟨Or.inr rfl, brF (by decide) (c_plN L O hz (brT rfl (hQ h (Fp.rf _ h))))⟩) (fun q => absurd hx q)
      · unfold M_secures
        rintro _ rfl
        exact m_either (fun _ => brF (by decide) (m_plNi (a := rowM h) (by rw [sI_o (by decide)]; exact f1.1 99 1 rfl) O hz (brT rfl (hQ _ FpThr)))) (fun q => absurd hx q)
  · refine sim_qJ I k (-9000000000000000002) (fun Q hQ => ?_) (fun h1 Q I1 eR f1 hQ => ?_)
    · unfold C_secures C_isPlayer
      exact c_either (fun q => absurd q hx) (fun _ => ⟨Or.inl rfl, brT rfl (hQ h (Fp.rf _ h))⟩)
    · unfold M_secures
      rintro _ rfl
      exact m_either (fun q => absurd q hx) (fun _ => brT rfl (hQ _ FpThr))
noncomputable def meetN (a : Row) (w : Nat) (s : Row) : Nat := bset (fun p => decide (svA a w 1 (fun p => bl (PX a w s 1 p)) p = svA a w 0 (fun p => bl (PX a w s 0 p)) p)) (nP a)
theorem sim_meet {B : Int} : Sim B B C_meet M_meet := by
  intro h K I k
  obtain ⟨O, L⟩ : iLand h := I.1
  have h8 := O.1.2.1
  obtain ⟨w, t, hw, ht, ew, et, e0, e3⟩ := rowsAll I
  refine sim_q I k (nI (meetN (rowM h) w (stdM h))) (fun Q hQ => ?_) (fun h1 Q I1 eR f1 hQ => ?_)
  · unfold C_meet
    refine c_lookAtPlanOf (who := 1) L O hw (by omega) I.2.1.2 ew (stdPl I) (fun h1 f1 V1 K1 => ?_)
    refine pk_loop (σ := Hp) (fun n i h' => C_meet_L7 _ n (nI i) h') (fun i h' => Fp (fun o _ => o == 96) h1 h' ∧ ∀ p, p < i → gI h' 96 p = gI h1 78 p) 8 0 h1 (by omega) ⟨Fp.rf _ _, fun p hp => absurd hp (by omega)⟩ (fun n h2 J => ?_) (fun n i h' hi J hk => ?_)
    · unfold C_meet_L7
      refine pk_le 8 8 (fun _ => ?_) (fun c => absurd c (by omega))
      obtain ⟨F2, e96⟩ := J
      have s96 : ∀ o k, scD o k = false → (o == 96) = false := fun o k hh => by
        cases e : (o == 96)
        · rfl
        · rw [beq_iff_eq] at e; subst e; cases hh
      have F2' : Fp scD h h2 := (f1.mo scD_o7).tr (F2.mo s96)
      have L2 : Lnd h2 (rowM h) := Lnd_k L (fun o j a1 a2 => F2'.1 o j (by
        simp only [scD, scC, Bool.and_eq_false_iff, Bool.or_eq_false_iff, decide_eq_false_iff_not, beq_eq_false_iff_ne]; omega))
      have R2 : StdR h2 20 21 (stdM h) := StdR_k I.2.1.2 (fun x j hx => F2'.1 x j (by
        rcases hx with rfl | rfl <;> rfl)) (F2'.2 20 1 rfl)
      refine c_lookAtPlanOf (who := 0) L2 O hw (by omega) R2 ew (stdPl I) (fun h3 f3 V3 K3 => ?_)
      have L3 : Lnd h3 (rowM h) := V3.1
      have e3' : ∀ p, p < 8 → gI h3 96 p = gI h1 78 p := fun p hp => (f3.1 96 p rfl).trans (e96 p hp)
      refine pk_loop (σ := Nat) (fun n i s => C_meet_L46 Q n (nI s) (nI i) h3) (fun i s => s = bset (fun p => decide (svA (rowM h) w 1 (fun p => bl (PX (rowM h) w (stdM h) 1 p)) p = svA (rowM h) w 0 (fun p => bl (PX (rowM h) w (stdM h) 0 p)) p)) i) (nP (rowM h)) 0 0 (by omega) rfl (fun n s J => ?_) (fun n i s hi J hk => ?_)
      · unfold C_meet_L46
        rw [L3.1, O.1.2.2]
        refine pk_le (nP (rowM h)) (nP (rowM h)) (fun _ => ?_) (fun c => absurd c (by omega))
        rw [J]
        exact hQ h3 (F2'.tr (f3.mo scD_o7))
      · unfold C_meet_L46
        rw [L3.1, O.1.2.2]
        refine pk_le (nP (rowM h)) i (fun c => absurd c (by omega)) (fun _ => pk_le 8 i (fun c => absurd c (by omega)) (fun _ => ⟨pk_in i 8 (by omega), c_securedBy (who := 0) (by omega) (by omega) ?_⟩))
        rintro J90 rfl
        rw [cl i, e3' i (by omega), if_neg (by decide), i_eq, (K1.2.2 i hi).1, (K3.2.2 i hi).2]
        refine ⟨fun c => ?_, fun c => ?_⟩
        · rintro _ rfl
          rw [nI_1 i]
          exact hk s (by rw [J, bset_no (by exact decide_eq_false c)])
        · rintro _ rfl _ rfl
          rw [nI_1 i, z_1 i (by omega), z_or]
          refine hk _ ?_
          rw [J, ← bset_or, if_pos (by exact decide_eq_true c)]
    · unfold C_meet_L7
      refine pk_le 8 i (fun c => absurd c (by omega)) (fun _ => c_securedBy (who := 1) (by omega) (by omega) ⟨pk_in i 8 (by omega), ?_⟩)
      rw [cl i, if_pos rfl]
      rintro _ rfl _ rfl
      rw [nI_1 i]
      refine hk _ ⟨Fp.sI J.1 rfl, fun p hp => ?_⟩
      by_cases c : p = i
      · subst c; rw [sI_s]; exact J.1.1 78 p rfl
      · rw [sI_k c]; exact J.2 p (by omega)
  · unfold M_meet
    rintro _ rfl
    refine m_laysRings (a := rowM h) O (fun j => by rw [sI_o (by decide)]; exact f1.1 99 j rfl) ew (fun h2 f2 g2 z2 r2 => ?_)
    refine m_laysSet (s := stdM h) (who := 0) O (by omega) g2 (std62 h) (stdPl I) z2 r2 (fun h3 f3 S3 => ?_)
    have g3 : ∀ j, gI h3 99 j = rowM h j := fun j => (f3.1 99 j rfl).trans (g2 j)
    refine pk_loop (σ := Hp) (fun n i h' => M_meet_L16 _ n (nI i) h') (fun i h' => Fp (fun o _ => o == 115) h3 h' ∧ ∀ p, p < i → gI h' 115 p = gI h3 117 p) (nP (rowM h)) 0 h3 (by omega) ⟨Fp.rf _ _, fun p hp => absurd hp (by omega)⟩ (fun n h4 J => ?_) (fun n i h' hi J hk => ?_)
    · unfold M_meet_L16
      rw [J.1.1 99 1 rfl, g3, O.1.2.2]
      refine pk_le (nP (rowM h)) (nP (rowM h)) (fun _ => ?_) (fun c => absurd c (by omega))
      obtain ⟨F4, e115⟩ := J
      have g4 : ∀ j, gI h4 99 j = rowM h j := fun j => (F4.1 99 j rfl).trans (g3 j)
      have z4 := ways_k F4 (fun o k a b => by rw [beq_eq_false_iff_ne]; omega) (ways_k f3 o117_W z2)
      have r4 := RgM_k (RgM_k r2 f3 o117_G) F4 (fun o k hh => by rw [beq_eq_false_iff_ne]; omega)
      refine m_laysSet (s := stdM h) (who := 1) O (by omega) g4 (std62 h) (stdPl I) z4 r4 (fun h5 f5 S5 => ?_)
      have g5 : ∀ j, gI h5 99 j = rowM h j := fun j => (f5.1 99 j rfl).trans (g4 j)
      have r5 := RgM_k r4 f5 o117_G
      have s115 : ∀ o k, scM o k = false → (o == 115) = false := fun o k hh => by
        simp only [scM, Bool.or_eq_false_iff, Bool.and_eq_false_iff, decide_eq_false_iff_not] at hh
        rw [beq_eq_false_iff_ne]; omega
      have FF : Fp scM h1 h5 := (((FpThr.tr f2).tr (f3.mo scM_117)).tr (F4.mo s115)).tr (f5.mo scM_117)
      refine pk_loop (σ := Nat) (fun n i s => M_meet_L53 Q n (nI s) (nI i) h5) (fun i s => s = bset (fun p => decide (svA (rowM h) w 1 (fun p => bl (PX (rowM h) w (stdM h) 1 p)) p = svA (rowM h) w 0 (fun p => bl (PX (rowM h) w (stdM h) 0 p)) p)) i) (nP (rowM h)) 0 0 (by omega) rfl (fun n s J => ?_) (fun n i s hi J hk => ?_)
      · unfold M_meet_L53
        rw [g5, O.1.2.2]
        refine pk_le (nP (rowM h)) (nP (rowM h)) (fun _ => ?_) (fun c => absurd c (by omega))
        rw [J]
        exact hQ h5 FF
      · unfold M_meet_L53
        rw [g5, O.1.2.2]
        obtain ⟨j0, R0, ej0, hj0, es0⟩ := S3 i hi
        obtain ⟨j1, R1, ej1, hj1, es1⟩ := S5 i hi
        have e115' : gI h5 115 i = nI j0 := by rw [f5.1 115 i rfl, e115 i hi, ej0]
        have no : ¬ svA (rowM h) w 1 (fun p => bl (PX (rowM h) w (stdM h) 1 p)) i = svA (rowM h) w 0 (fun p => bl (PX (rowM h) w (stdM h) 0 p)) i → ∀ v13 : Int32, v13 = (nI s ||| 0) → ∀ v14 : Int32, v14 = (nI i + 1) → M_meet_L53 Q n v13 v14 h5 := by
          rintro c _ rfl _ rfl
          rw [nI_1 i, show nI s ||| (0 : Int32) = nI s by rw [show (0 : Int32) = nI 0 from rfl, z_or, Nat.or_zero]]
          exact hk s (by rw [J, bset_no (by exact decide_eq_false c)])
        refine pk_le (nP (rowM h)) i (fun c => absurd c (by omega)) (fun _ => ⟨pk_in i 8 (by omega), pk_in i 8 (by omega), ?_⟩)
        rw [cl i, e115', ej1]
        refine m_isLess r5 (RgOK_A O w) hj0 hj1 (fun c => ?_) (fun c => ?_)
        · rintro J109 rfl J102 rfl
          exact brF' (by decide) (no (by omega))
        · rintro J109 rfl J102 rfl
          refine brT' rfl ⟨pk_in i 8 (by omega), pk_in i 8 (by omega), ?_⟩
          rw [e115', ej1]
          refine m_isLess r5 (RgOK_A O w) hj1 hj0 (fun c2 => brF (by decide) (no (by omega))) (fun c2 => brT rfl ?_)
          rintro _ rfl _ rfl
          rw [nI_1 i, z_1 i (by omega), z_or]
          refine hk _ ?_
          rw [J, ← bset_or, if_pos (by exact decide_eq_true (by omega))]
    · unfold M_meet_L16
      rw [J.1.1 99 1 rfl, g3, O.1.2.2]
      refine pk_le (nP (rowM h)) i (fun c => absurd c (by omega)) (fun _ => ⟨pk_in i 8 (by omega), pk_in i 8 (by omega), ?_⟩)
      rw [cl i]
      rintro _ rfl _ rfl
      rw [nI_1 i]
      refine hk _ ⟨Fp.sI J.1 rfl, fun p hp => ?_⟩
      by_cases c : p = i
      · subst c; rw [sI_s]; exact J.1.1 117 p rfl
      · rw [sI_k c]; exact J.2 p (by omega)
