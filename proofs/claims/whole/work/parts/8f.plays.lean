/-! plays -/
def plV (n : Nat) : Int32 := if low n < 16 then nI (low n) else -1
def plS (a : Row) (who : Nat) (X : Nat → Nat) (s : Row) (i : Nat) : Row := fun k => if (4 ≤ k ∧ k < 4 + i) ∧ ownB (mnA a) who (k - 4) = true then plV (X (k - 4)) else s k
def plN (a : Row) (who : Nat) (X : Nat → Nat) (s : Row) (i : Nat) : Nat := smN (fun p => if ownB (mnA a) who p = true ∧ ¬ s (4 + p) = plV (X p) then 1 else 0) i
theorem plS_lo {a : Row} {who : Nat} {X : Nat → Nat} {s : Row} {i k : Nat} (h : k < 4) : plS a who X s i k = s k := if_neg (by omega)
theorem plS_p {a : Row} {who : Nat} {X : Nat → Nat} {s : Row} {i p : Nat} : plS a who X s i (4 + p) = if p < i ∧ ownB (mnA a) who p = true then plV (X p) else s (4 + p) := by
  unfold plS
  rw [show 4 + p - 4 = p by omega]
  by_cases c : p < i ∧ ownB (mnA a) who p = true
  · rw [if_pos ⟨⟨by omega, by omega⟩, c.2⟩, if_pos c]
  · rw [if_neg (fun z => c ⟨by omega, z.2⟩), if_neg c]
theorem plS_s {a : Row} {who : Nat} {X : Nat → Nat} {s : Row} {i : Nat} (h : ¬ ownB (mnA a) who i = true) (k : Nat) : plS a who X s (i + 1) k = plS a who X s i k := by
  unfold plS
  by_cases c : (4 ≤ k ∧ k < 4 + i) ∧ ownB (mnA a) who (k - 4) = true
  · rw [if_pos c, if_pos ⟨⟨c.1.1, by omega⟩, c.2⟩]
  · rw [if_neg c]
    refine if_neg (fun z => c ⟨⟨z.1.1, ?_⟩, z.2⟩)
    have : k - 4 ≠ i := fun e => h (e ▸ z.2)
    omega
theorem plS_y {a : Row} {who : Nat} {X : Nat → Nat} {s : Row} {i : Nat} (h : ownB (mnA a) who i = true) (k : Nat) : plS a who X s (i + 1) k = if k = 4 + i then plV (X i) else plS a who X s i k := by
  by_cases e : k = 4 + i
  · subst e
    rw [if_pos rfl, plS_p, if_pos ⟨by omega, h⟩]
  · rw [if_neg e]
    unfold plS
    by_cases c : (4 ≤ k ∧ k < 4 + i) ∧ ownB (mnA a) who (k - 4) = true
    · rw [if_pos c, if_pos ⟨⟨c.1.1, by omega⟩, c.2⟩]
    · rw [if_neg c]
      exact if_neg (fun z => c ⟨⟨z.1.1, by omega⟩, z.2⟩)
theorem plV_ok {a : Row} (O : LandOK a) {w p e : Nat} (hp : p < 8) (we : wayOK a w p e) : plOK a (plV (2 ^ e)) p := by
  have e24 := way24 O hp we
  unfold plV
  rw [low_pow (by omega)]
  rcases we with ⟨h1, h2, h3, _⟩ | ⟨_, rfl⟩
  · rw [if_pos h1]; exact Or.inr ⟨e, h2, rfl, h3⟩
  · rw [if_neg (by omega)]; exact Or.inl rfl
theorem plV_16 {e : Nat} (he : e < 24) : (tw e = 16 ↔ ¬ e < 16) ∧ plV (2 ^ e) = if e < 16 then nI e else -1 := by
  unfold plV tw
  rw [low_pow (by omega)]
  refine ⟨?_, rfl⟩
  by_cases c : e < 16
  · rw [if_pos c]; omega
  · rw [if_neg c]; omega
theorem m_playsL {a s : Row} {w who U : Nat} {X : Nat → Nat} {h5 : Hp} {Q : Int32 → Hp → Prop} (O : LandOK a) (hwho : who < 2) (g5 : ∀ j, gI h5 99 j = a j) (es : ∀ j, j < 12 → a (58 + j) = s j) (z5 : WaysM h5 a w) (e114 : gI h5 114 who = nI U) (hXX : X ∈ PLXA a w who) (hU : UX a X U) (own : ∀ p, p < nP a → ownB (mnA a) who p = true → ∃ e, wayOK a w p e ∧ e < 24 ∧ X p = 2 ^ e) (kk : ∀ h6, Fp (fun o k => o == 99 && (decide (62 ≤ k) && decide (k < 70))) h5 h6 → (∀ j, j < 12 → gI h6 99 (58 + j) = plS a who X s (nP a) j) → M_notes h6 (fun h7 => Q (nI (plN a who X s (nP a))) h7)) : ∃ n22, M_plays_L30 (nI who) Q n22 0 0 h5 := by
  have h8 := O.1.2.1
  refine pk_loop (σ := Hp) (fun n i hh => M_plays_L30 (nI who) Q n (nI (plN a who X s i)) (nI i) hh) (fun i hh => Fp (fun o k => o == 99 && (decide (62 ≤ k) && decide (k < 70))) h5 hh ∧ ∀ j, j < 12 → gI hh 99 (58 + j) = plS a who X s i j) (nP a) 0 h5 (by omega) ⟨Fp.rf _ _, fun j hj => by rw [g5, es j hj]; exact (if_neg (by omega)).symm⟩ (fun n h6 J6 => ?_) (fun n i hh hi J6 hk => ?_)
  · obtain ⟨f6, s6⟩ := J6
    have o6 : ∀ k, ¬ (62 ≤ k ∧ k < 70) → gI h6 99 k = a k := fun k hk => by
      rw [f6.1 99 k (by simp only [Bool.and_eq_false_iff, decide_eq_false_iff_not, beq_eq_false_iff_ne]; omega)]; exact g5 k
    unfold M_plays_L30
    rw [o6 1 (by omega), O.1.2.2]
    exact pk_le (nP a) (nP a) (fun _ => kk h6 f6 s6) (fun c => absurd c (by omega))
  · obtain ⟨f6, s6⟩ := J6
    have o6 : ∀ k, ¬ (62 ≤ k ∧ k < 70) → gI hh 99 k = a k := fun k hk => by
      rw [f6.1 99 k (by simp only [Bool.and_eq_false_iff, decide_eq_false_iff_not, beq_eq_false_iff_ne]; omega)]; exact g5 k
    have z6 := ways_k f6 (fun o k a b => by simp only [Bool.and_eq_false_iff, beq_eq_false_iff_ne]; omega) z5
    unfold M_plays_L30
    rw [o6 1 (by omega), O.1.2.2]
    refine pk_le (nP a) i (fun c => absurd c (by omega)) (fun _ => m_mine (a := a) (o6 3 (by omega)) O (by omega) ?_)
    rintro J55 rfl
    have main : ∀ s9 : Int32, s9 = nI who → (∀ J127 : Int32 → Hp → Prop, J127 = (fun x2_11 h12 => ∀ v13 : Int32, v13 = (nI i + 1) → M_plays_L30 (nI who) Q n x2_11 v13 h12) → ((if mnA a i then (1 : Int32) else 0) = s9 → vp_in (nI who) 2 ∧ vp_in (nI i) 8 ∧ M_firstIn ((gI hh 114 (nI who).toNatClampNeg) &&& (gI hh 108 (nI i).toNatClampNeg)) hh (fun r14 h15 => ∀ J92 : Int32 → Hp → Prop, J92 = (fun s16 h17 => vp_in ((62 : Int32) + nI i) 3276 ∧ ∀ J114 : Int32 → Hp → Prop, J114 = (fun s18 h19 => ∀ v20 : Int32, v20 = (nI (plN a who X s i) + s18) → vp_in ((62 : Int32) + nI i) 3276 ∧ ∀ h21 : Hp, h21 = sI h19 99 (((62 : Int32) + nI i)).toNatClampNeg s16 → J127 v20 h21) → (s16 = (gI h17 99 (((62 : Int32) + nI i)).toNatClampNeg) → J114 0 h17) ∧ (¬ s16 = (gI h17 99 (((62 : Int32) + nI i)).toNatClampNeg) → J114 1 h17)) → (16 ≤ r14 → J92 (-1) h15) ∧ (¬ 16 ≤ r14 → J92 r14 h15))) ∧ (¬ (if mnA a i then (1 : Int32) else 0) = s9 → J127 (nI (plN a who X s i)) hh)) := by
      rintro _ rfl J127 rfl
      rw [own_i hwho]
      have nxN : plN a who X s (i + 1) = plN a who X s i + (if ownB (mnA a) who i = true ∧ ¬ s (4 + i) = plV (X i) then 1 else 0) := rfl
      refine ⟨fun c => ⟨pk_in who 2 hwho, pk_in i 8 (by omega), ?_⟩, fun c => ?_⟩
      · obtain ⟨e, we, e24, ee⟩ := own i hi c
        obtain ⟨_, pv⟩ := plV_16 e24
        rw [cl who, cl i, f6.1 114 who rfl, e114, ways_w z6 O hi, z_and, U_own O (PLX_ok O hXX) hU hi, ee]
        refine m_firstIn (Nat.ne_of_gt (Nat.two_pow_pos _)) (Nat.pow_lt_pow_right (by decide) e24) ?_
        rw [low_pow (by omega)]
        rintro J92 rfl
        have e62 : (62 : Int32) + nI i = nI (62 + i) := nI_add 62 i
        have old : gI hh 99 (62 + i) = s (4 + i) := by
          have := s6 (4 + i) (by omega)
          rw [show 58 + (4 + i) = 62 + i by omega, plS_p, if_neg (by omega)] at this
          exact this
        have fin : ∀ s16 : Int32, s16 = plV (X i) → (vp_in ((62 : Int32) + nI i) 3276 ∧ ∀ J114 : Int32 → Hp → Prop, J114 = (fun s18 h19 => ∀ v20 : Int32, v20 = (nI (plN a who X s i) + s18) → vp_in ((62 : Int32) + nI i) 3276 ∧ ∀ h21 : Hp, h21 = sI h19 99 (((62 : Int32) + nI i)).toNatClampNeg s16 → ∀ v13 : Int32, v13 = (nI i + 1) → M_plays_L30 (nI who) Q n v20 v13 h21) → (s16 = (gI hh 99 (((62 : Int32) + nI i)).toNatClampNeg) → J114 0 hh) ∧ (¬ s16 = (gI hh 99 (((62 : Int32) + nI i)).toNatClampNeg) → J114 1 hh)) := by
          rintro _ rfl
          rw [e62, cl (62 + i), old]
          refine ⟨pk_in (62 + i) 3276 (by omega), ?_⟩
          rintro J114 rfl
          have st : ∀ v : Nat, v = plN a who X s (i + 1) → vp_in (nI (62 + i)) 3276 ∧ ∀ h21 : Hp, h21 = sI hh 99 (62 + i) (plV (X i)) → ∀ v13 : Int32, v13 = (nI i + 1) → M_plays_L30 (nI who) Q n (nI v) v13 h21 := by
            rintro _ rfl
            refine ⟨pk_in (62 + i) 3276 (by omega), ?_⟩
            rintro _ rfl _ rfl
            rw [nI_1 i]
            refine hk _ ⟨Fp.sI f6 (by simp only [Bool.and_eq_true, decide_eq_true_iff]; exact ⟨rfl, by omega, by omega⟩), fun j hj => ?_⟩
            rw [plS_y c]
            by_cases d : j = 4 + i
            · subst d; rw [if_pos rfl, show 58 + (4 + i) = 62 + i by omega, sI_s]
            · rw [if_neg d, sI_k (by omega)]; exact s6 j hj
          refine ⟨fun d => ?_, fun d => ?_⟩
          · rintro _ rfl
            rw [Int32.add_zero]
            exact st _ (by rw [nxN, if_neg (fun z => z.2 d.symm)]; rfl)
          · rintro _ rfl
            rw [nI_1 (plN a who X s i)]
            exact st _ (by rw [nxN, if_pos ⟨c, fun z => d z.symm⟩])
        have ev : plV (X i) = if e < 16 then nI e else -1 := by rw [ee]; exact pv
        refine pk_le 16 e (fun d => fin (-1) ?_) (fun d => fin (nI e) ?_)
        · rw [ev, if_neg (by omega)]
        · rw [ev, if_pos d]
      · rintro _ rfl
        rw [nI_1 i]
        have en : plN a who X s (i + 1) = plN a who X s i := by rw [nxN, if_neg (fun z => c z.1)]; rfl
        have := hk hh ⟨f6, fun j hj => by rw [plS_s c]; exact s6 j hj⟩
        rw [en] at this
        exact this
    have w01 : who = 0 ∨ who = 1 := by omega
    rcases w01 with z | z
    · rw [z] at main ⊢
      exact brF' (by decide) (main 0 rfl)
    · rw [z] at main ⊢
      exact brT' rfl (main 1 rfl)
theorem c_playsL {a s : Row} {w who : Nat} {X : Nat → Nat} {h1 h2 : Hp} {Q : Int32 → Hp → Prop} (O : LandOK a) (hwho : who < 2) (L1 : Lnd h1 a) (f2 : Fp oK h1 h2) (e21' : ∀ p, p < 8 → gI h2 21 p = s (4 + p)) (own : ∀ p, p < nP a → ownB (mnA a) who p = true → ∃ e, wayOK a w p e ∧ e < 24 ∧ X p = 2 ^ e) (c83 : ∀ p e, p < nP a → ownB (mnA a) who p = true → e < 24 → X p = 2 ^ e → gI h1 83 p = nI (tw e)) (kk : ∀ h3, Fp (fun o _ => o == 21) h2 h3 → (∀ p, p < 8 → gI h3 21 p = plS a who X s (nP a) (4 + p)) → Q (nI (plN a who X s (nP a))) h3) : ∃ n18, C_plays_L47 (nI who) Q n18 0 0 h2 := by
  have h8 := O.1.2.1
  refine pk_loop (σ := Hp) (fun n i hh => C_plays_L47 (nI who) Q n (nI (plN a who X s i)) (nI i) hh) (fun i hh => Fp (fun o _ => o == 21) h2 hh ∧ ∀ p, p < 8 → gI hh 21 p = plS a who X s i (4 + p)) (nP a) 0 h2 (by omega) ⟨Fp.rf _ _, fun p hp => by rw [plS_p, if_neg (by omega)]; exact e21' p hp⟩ (fun n h3 J => ?_) (fun n i hh hi J hk => ?_)
  · obtain ⟨f3, e21⟩ := J
    have L3 : Lnd h3 a := Lnd_k L1 (fun o j a1 a2 => by rw [f3.1 o j (by rw [beq_eq_false_iff_ne]; omega), f2.1 o j (oK_lo (by omega))])
    unfold C_plays_L47
    rw [L3.1, O.1.2.2]
    exact pk_le (nP a) (nP a) (fun _ => kk h3 f3 e21) (fun c => absurd c (by omega))
  · obtain ⟨f3, e21⟩ := J
    have L3 : Lnd hh a := Lnd_k L1 (fun o j a1 a2 => by rw [f3.1 o j (by rw [beq_eq_false_iff_ne]; omega), f2.1 o j (oK_lo (by omega))])
    have nxN : plN a who X s (i + 1) = plN a who X s i + (if ownB (mnA a) who i = true ∧ ¬ s (4 + i) = plV (X i) then 1 else 0) := rfl
    have e83 : gI hh 83 i = gI h1 83 i := by rw [f3.1 83 i rfl, f2.1 83 i rfl]
    unfold C_plays_L47
    rw [L3.1, O.1.2.2]
    refine pk_le (nP a) i (fun c => absurd c (by omega)) (fun _ => c_bestWay (by omega) ?_)
    rw [e83]
    rintro J81 rfl
    -- whatever is told of another's place
    have go : ∀ s7 : Int32, (ownB (mnA a) who i = true → s7 = plV (X i)) → Land_owner (nI i) hh (fun r9 h10 => ∀ J121 : Int32 → Hp → Prop, J121 = (fun x2_11 h12 => ∀ v13 : Int32, v13 = (nI i + 1) → C_plays_L47 (nI who) Q n x2_11 v13 h12) → (¬ r9 = nI who → J121 (nI (plN a who X s i)) h10) ∧ (r9 = nI who → Stand_planOf 20 (nI i) h10 (fun r14 h15 => (r14 = s7 → J121 (nI (plN a who X s i)) h15) ∧ (¬ r14 = s7 → Stand_setPlan 20 (nI i) s7 h15 (fun h16 => ∀ v17 : Int32, v17 = (nI (plN a who X s i) + 1) → J121 v17 h16))))) := by
      intro s7 hs7
      refine c_own L3 O (by omega) ?_
      rintro J121 rfl
      rw [own_i hwho]
      refine ⟨fun c => ?_, fun c => ?_⟩
      · rintro _ rfl
        rw [nI_1 i]
        have en : plN a who X s (i + 1) = plN a who X s i := by rw [nxN, if_neg (fun z => c z.1)]; rfl
        have := hk hh ⟨f3, fun p hp => by rw [plS_s c]; exact e21 p hp⟩
        rw [en] at this
        exact this
      · have s7v := hs7 c
        subst s7v
        have pl : gI hh 21 i = s (4 + i) := by rw [e21 i (by omega), plS_p, if_neg (by omega)]
        unfold Stand_planOf
        refine brF (nI_pos (by omega)) (pk_le 8 i (fun q => absurd q (by omega)) (fun _ => ⟨pk_in i 8 (by omega), ?_⟩))
        rw [cl i, rfS.1, pl]
        refine ⟨fun d => ?_, fun d => ?_⟩
        · rintro _ rfl
          rw [nI_1 i]
          have en : plN a who X s (i + 1) = plN a who X s i := by rw [nxN, if_neg (fun z => z.2 d)]; rfl
          have := hk hh ⟨f3, fun p hp => ?_⟩
          · rw [en] at this; exact this
          · rw [plS_y c]
            by_cases e : p = i
            · subst e; rw [if_pos rfl, pl, d]
            · rw [if_neg (by omega)]; exact e21 p hp
        · unfold Stand_setPlan
          refine brF (nI_pos (by omega)) (pk_le 8 i (fun q => absurd q (by omega)) (fun _ => ⟨pk_in i 8 (by omega), ?_⟩))
          rw [cl i, rfS.1]
          rintro _ rfl _ rfl _ rfl
          rw [nI_1 i, nI_1]
          have en : plN a who X s (i + 1) = plN a who X s i + 1 := by rw [nxN, if_pos ⟨c, d⟩]
          have := hk (sI hh 21 i (plV (X i))) ⟨Fp.sI f3 rfl, fun p hp => ?_⟩
          · rw [en] at this; exact this
          · rw [plS_y c]
            by_cases e : p = i
            · subst e; rw [if_pos rfl, sI_s]
            · rw [if_neg (by omega), sI_k e]; exact e21 p hp
    refine ⟨fun c => go _ (fun ho => ?_), fun c => go _ (fun ho => ?_)⟩
    · obtain ⟨e, we, e24, ee⟩ := own i hi ho
      obtain ⟨p1, pv⟩ := plV_16 e24
      have cc := c83 i e hi ho e24 ee
      rw [cc] at c ⊢
      have e16 : e < 16 := by
        rcases Nat.lt_or_ge e 16 with d | d
        · exact d
        · exact absurd (by rw [p1.mpr (by omega)]; rfl) c
      rw [ee, pv, if_pos e16]
      unfold tw
      rw [if_pos e16]
    · obtain ⟨e, we, e24, ee⟩ := own i hi ho
      obtain ⟨p1, pv⟩ := plV_16 e24
      have cc := c83 i e hi ho e24 ee
      rw [cc] at c
      have t17 : tw e < 17 := by unfold tw; split <;> omega
      have : tw e = 16 := by
        rw [show (16 : Int32) = nI 16 from rfl, nI_eq (by omega) (by omega)] at c; exact c
      rw [ee, pv, if_neg (p1.mp this)]
theorem sim_plays {B : Int} {x : Int32} : Sim B B (C_plays x) (M_plays x) := by
  intro h K I k
  obtain ⟨O, L⟩ : iLand h := I.1
  have h8 := O.1.2.1
  obtain ⟨w, t, hw, ht, ew, et, e0, e3⟩ := rowsAll I
  obtain ⟨val, Xs, G⟩ := GmA_ex O w
  by_cases hx : x = 0 ∨ x = 1
  · obtain ⟨who, hwho, rfl⟩ := who_of hx
    unfold C_plays C_isPlayer
    refine c_either (fun _ => ⟨Or.inr rfl, brF' (by decide) ?_⟩) (fun q => absurd hx q)
    rw [e3]
    refine c_solveI I hw G (fun h1 F1 g1 C1 => ?_)
    have I1 := Inv_k3 I (F1.mo scG_3) g1
    have eR : rowM h1 = rowM h := funext (fun j => F1.1 99 j rfl)
    have eS : stdM h1 = stdM h := funext (fun j => F1.1 99 _ rfl)
    obtain ⟨sO, sR⟩ : iStd B h1 := I1.2.1
    obtain ⟨m, nx, pC, pM, pO⟩ := iPast_to I1.2.2.1
    have L1 : Lnd h1 (rowM h) := by have := I1.1.2; rw [eR] at this; exact this
    rw [eR, eS] at sO
    rw [eS] at sR
    obtain ⟨X, hX⟩ : ∃ X, Xs who = X := ⟨_, rfl⟩
    have own : ∀ p, p < nP (rowM h) → ownB (mnA (rowM h)) who p = true → ∃ e, wayOK (rowM h) w p e ∧ e < 24 ∧ X p = 2 ^ e := fun p hp ho => by
      obtain ⟨e, a1, a2, a3⟩ := Xs_own G hp hwho ho
      rw [hX] at a3
      exact ⟨e, (wys_tb O).mp a1, a2, a3⟩
    have c83 : ∀ p e, p < nP (rowM h) → ownB (mnA (rowM h)) who p = true → e < 24 → X p = 2 ^ e → gI h1 83 p = nI (tw e) := fun p e hp ho h24 he => (C1 p hp).2.2.2 e who hwho ho (by rw [hX]; exact he) h24
    refine c_keep sR rfS.1 (by omega) (by omega) pC (fun h2 f2 pC2 => ?_)
    have sR2 : StdR h2 20 21 (stdM h) := StdR_k sR (fun y j hy => f2.1 y j (oK_lo (by omega))) (f2.2 20 1 (oK_lo (by omega)))
    have hXX : X ∈ PLXA (rowM h) w who := by rw [← hX]; exact (G.2 who hwho).1
    refine c_playsL O hwho L1 f2 sR2.2.2.2.2 own c83 (fun h3 f3 e21 => ?_)
    have o21A : ∀ o k, scA o k = false → (o == 21) = false := fun o k hh => by
      simp only [scA, Bool.or_eq_false_iff] at hh; exact hh.2.1.2
    have FC : Fp scA h1 h3 := (f2.mo oK_A).tr (f3.mo o21A)
    have sR3 : StdR h3 20 21 (plS (rowM h) who X (stdM h) (nP (rowM h))) := by
      refine ⟨?_, ?_, ?_, ?_, fun p hp => e21 p hp⟩
      · rw [f3.1 20 0 rfl, plS_lo (by omega)]; exact sR2.1
      · rw [f3.2 20 1 rfl, plS_lo (by omega)]; exact sR2.2.1
      · rw [f3.1 20 2 rfl, plS_lo (by omega)]; exact sR2.2.2.1
      · rw [f3.1 20 3 rfl, plS_lo (by omega)]; exact sR2.2.2.2.1
    -- the reference
    unfold M_plays
    rintro _ rfl
    refine m_either (fun _ => brF' (by decide) ?_) (fun q => absurd hx q)
    have g3 : ∀ j, gI (sI h3 98 0 0) 99 j = rowM h j := fun j => by
      rw [sI_o (by decide), FC.1 99 j (scA_hi (by omega))]; exact F1.1 99 j rfl
    refine m_laysGame (a := rowM h) O g3 ew G (fun h4 F4 S4 W4 G0 G1 => ?_)
    have gw : GmW (rowM h) w who val Xs h4 := by
      have w01 : who = 0 ∨ who = 1 := by omega
      rcases w01 with z | z <;> rw [z] <;> assumption
    obtain ⟨_, U, hU, eU⟩ := gw
    rw [hX] at hU
    refine m_stores (fun h5 f5 s5 => ?_)
    have e109 : ∀ j, j < 12 → gI h5 109 j = stdM h j := fun j hj => by rw [s5 j hj, S4.1]; rfl
    have F5 : Fp oB h3 h5 := ((FpThr.tr F4).mo scM_B).tr (f5.mo o109_B)
    have z5 := ways_k f5 (fun o k a b => by rw [beq_eq_false_iff_ne]; omega) S4.2.1
    have g5 : ∀ j, gI h5 99 j = rowM h j := fun j => (f5.1 99 j rfl).trans (S4.1 j)
    have e114 : gI h5 114 who = nI U := (f5.1 114 who rfl).trans eU
    refine m_playsL O hwho g5 (fun j _ => rfl) z5 e114 hXX hU own (fun h6 f6 s6 => ?_)
    refine push_end I1 (Int.le_refl B) (s := plS (rowM h) who X (stdM h) (nP (rowM h))) FC (F5.tr (f6.mo (fun o k hh => ?_))) (by rw [eS]; exact PastC_k pC2 (fun o j a1 a2 => f3.1 o j (by rw [beq_eq_false_iff_ne]; omega)) (fun o j a1 a2 => f3.2 o j (by rw [beq_eq_false_iff_ne]; omega))) pC.1 pM pO sR3 s6 ?_ (fun j hj => ?_) (fun h7 I7 f7 => simEnd (k h7 I7))
    · simp only [oB, Bool.or_eq_false_iff, Bool.and_eq_false_iff, decide_eq_false_iff_not, beq_eq_false_iff_ne] at hh
      simp only [Bool.and_eq_false_iff, decide_eq_false_iff_not, beq_eq_false_iff_ne]
      have := hh.2; omega
    · rw [eR]
      refine ⟨?_, ?_, fun p hp => ?_, ?_⟩
      · rw [plS_lo (by omega)]; exact sO.1
      · rw [plS_lo (by omega)]; exact sO.2.1
      · rw [plS_p]
        by_cases c : p < nP (rowM h) ∧ ownB (mnA (rowM h)) who p = true
        · rw [if_pos c]
          obtain ⟨e, we, _, he⟩ := own p c.1 c.2
          rw [he]; exact plV_ok O hp we
        · rw [if_neg c]; exact sO.2.2.1 p hp
      · rw [plS_lo (by omega)]; exact sO.2.2.2
    · rw [f6.1 109 j rfl, e109 j hj, eS]
  · refine sim_q I k (-2) (fun Q hQ => ?_) (fun h1 Q I1 eR f1 hQ => ?_)
    · unfold C_plays C_isPlayer
      exact c_either (fun q => absurd q hx) (fun _ => ⟨Or.inl rfl, brT' rfl (hQ h (Fp.rf _ h))⟩)
    · unfold M_plays
      rintro _ rfl
      exact m_either (fun q => absurd q hx) (fun _ => brT' rfl (hQ _ FpThr))
