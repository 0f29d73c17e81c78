/-! weathers, ask -/
def payB (a : Row) (r : Nat) (x : Int32) : Nat → Bool := fun w => decide (payA a w r = x)
theorem c_wPay {h : Hp} {Q : Int32 → Hp → Prop} {a : Row} {r : Nat} {x : Int32} (L : Lnd h a) (O : LandOK a) (hr : r < nR a) (k : Q (nI (bset (payB a r x) 10)) h) : Land_weathersPaying (nI r) x h Q := by
  unfold Land_weathersPaying
  refine pk_loop (σ := Int32) (fun n i s => Land_weathersPaying_L5 (nI r) x Q n s (nI i) h) (fun i s => s = nI (bset (payB a r x) i)) 10 0 _ (by omega) rfl (fun n s hs => ?_) (fun n i s hi hs hk => ?_)
  · unfold Land_weathersPaying_L5
    exact pk_le 10 10 (fun _ => by rw [hs]; exact k) (fun q => absurd q (by omega))
  · unfold Land_weathersPaying_L5
    refine pk_le 10 i (fun q => absurd q (by omega)) (fun _ => c_payOf L O hi hr ?_)
    rintro J rfl
    refine ⟨fun q => ?_, fun q => ?_⟩
    · rintro _ rfl
      rw [nI_1]
      refine hk _ ?_
      rw [hs, bset_no (by simp [payB, q])]
    · rw [z_1 i (by omega), hs, z_or]
      rintro _ rfl _ rfl
      rw [nI_1]
      refine hk _ ?_
      rw [← bset_or, if_pos (by simp [payB, q])]
/-- the told pays fit the weather w -/
def okW (a : Row) (f : Nat → Int) : Nat → Nat → Bool
  | 0, _ => true
  | i + 1, w => okW a f i w && decide ((payA a w (f i / 1000).toNat).toInt + 100 = f i % 1000)
def gdW (a : Row) (v : Int) : Prop := 0 ≤ v ∧ v / 1000 < nR a ∧ 1 ≤ v % 1000 ∧ v % 1000 ≤ 199
theorem payA_bd (a : Row) (w r : Nat) : -99 ≤ (payA a w r).toInt ∧ (payA a w r).toInt ≤ 99 := clampP_bd _
theorem x1000 (n : Nat) (h : n < 2 ^ 63) : (0 : Int64) ≤ (lN n ^^^ (1000 : Int64)) := by
  have e : lN n ^^^ (1000 : Int64) = lN (n ^^^ 1000) := by
    apply Int64.toBitVec_inj.1
    show BitVec.ofNat 64 n ^^^ BitVec.ofNat 64 1000 = BitVec.ofNat 64 (n ^^^ 1000)
    apply BitVec.eq_of_getLsbD_eq
    intro i hi
    simp [hi]
  have hl : n ^^^ 1000 < 2 ^ 63 := Nat.xor_lt_two_pow h (by decide)
  rw [e, l_le, pk_lT hl]
  show (0 : Int) ≤ _
  omega
/-- the class goes through the tray -/
theorem c_weathersL {h : Hp} {Q : Int32 → Hp → Prop} {a : Row} {o2 m : Nat} {f : Nat → Int} (L : Lnd h a) (O : LandOK a) (hm : m ≤ 8) (em : gI h o2 1 = nI m) (er : rf o2 2 = o2 + 1) (ef : ∀ j, j < m → (gJ h (o2 + 1) j).toInt = f j) (kb : (∃ j, j < m ∧ ¬ gdW a (f j)) → Q (-3) h) (k : (∀ j, j < m → gdW a (f j)) → Q (nI (bset (okW a f m) 10)) h) : ∃ n, C_weathers_L54 o2 Q n 1023 0 h := by
  have h16 := O.2.1.1
  refine pk_loop (σ := Int32) (fun n i s => C_weathers_L54 o2 Q n s (nI i) h) (fun i s => s = nI (bset (okW a f i) 10) ∧ ∀ j, j < i → gdW a (f j)) m 0 _ (by omega) ⟨by show (1023 : Int32) = nI (bset (fun _ => true) 10); decide, fun j hj => absurd hj (by omega)⟩ (fun n s hs => ?_) (fun n i s hi hs hk => ?_)
  · unfold C_weathers_L54
    rw [em]
    refine pk_le m m (fun _ => ?_) (fun q => absurd q (by omega))
    rw [hs.1]
    exact k hs.2
  · unfold C_weathers_L54
    rw [em]
    refine pk_le m i (fun q => absurd q (by omega)) (fun _ => ?_)
    unfold Tray_number
    refine brF (nI_pos (by omega)) (pk_le 40 i (fun q => absurd q (by omega)) (fun _ => ⟨pk_in i 40 (by omega), ?_⟩))
    rw [cl i, er]
    have ei : (gJ h (o2 + 1) i).toInt = f i := ef i hi
    generalize gJ h (o2 + 1) i = v at ei
    have l0 : (0 : Int64).toInt = 0 := rfl
    unfold J9_floorMod_f86c9
    refine ⟨by decide, ?_⟩
    by_cases hv : 0 ≤ f i
    · obtain ⟨n', hn'⟩ : ∃ n' : Nat, v.toInt = n' := ⟨v.toInt.toNat, by omega⟩
      have n63 : n' < 2 ^ 63 := by have := l_bd v; omega
      obtain ⟨d1, d2, d3⟩ := lrem hn' n63 (show 0 < 1000 by decide) (by decide)
      have d2 : v / 1000 = lN (n' / 1000) := d2
      have d3 : v - v / 1000 * 1000 = lN (n' % 1000) := d3
      rw [d3]
      intro v1 hv1
      rw [hv1]
      have x := x1000 n' n63
      rw [← d1] at x
      refine brT x ?_
      dsimp only
      rw [lN_i]
      intro v10 hv10
      rw [hv10]
      refine brF (by rw [l_lt]; omega) ?_
      rw [d2, L.2.2.1, O.2.1.2, nI_l (by omega)]
      have fd : f i / 1000 = ((n' / 1000 : Nat) : Int) := by omega
      have fm : f i % 1000 = ((n' % 1000 : Nat) : Int) := by omega
      have bad : ¬ gdW a (f i) → Q (-3) h := fun e => kb ⟨i, hi, e⟩
      by_cases g1 : n' / 1000 < nR a
      · have e1 : ¬ lN (nR a) ≤ lN (n' / 1000) := by rw [pk_lLE (by omega) (by omega)]; omega
        refine brF e1 ?_
        refine pk_lt (n' % 1000) 1 (fun q => bad (fun e => by have := e.2.2.1; omega)) (fun q1 => pk_le (n' % 1000) 199 (fun q2 => ?_) (fun q => bad (fun e => by have := e.2.2.2; omega)) (ha := by omega)) (ha := by omega)
        rw [lN_i]
        refine c_wPay L O g1 ?_
        rw [hs.1, z_and, bset_and]
        rintro _ rfl _ rfl
        rw [nI_1]
        refine hk _ ⟨?_, fun j hj => ?_⟩
        · congr 1
          refine bset_cong (fun w hw => ?_)
          show _ = (okW a f i w && _)
          congr 1
          rw [fd, fm]
          show decide (payA a w (n' / 1000) = nI (n' % 1000) - 100) = decide ((payA a w (n' / 1000)).toInt + 100 = _)
          apply decide_eq_decide.mpr
          have l100 : (100 : Int32).toInt = 100 := by decide
          rw [i_eq, i_sub (by rw [nI_toInt (by omega), l100]; omega), nI_toInt (by omega), l100]
          omega
        · by_cases e : j = i
          · subst e; exact ⟨hv, by omega, by omega, by omega⟩
          · exact hs.2 j (by omega)
      · have e1 : lN (nR a) ≤ lN (n' / 1000) := by rw [pk_lLE (by omega) (by omega)]; omega
        exact brT e1 (bad (fun e => by have := e.2.1; omega))
    · have neg : v < 0 := by rw [l_lt]; omega
      have b3 := kb ⟨i, hi, fun e => hv e.1⟩
      intro v1 _
      refine ⟨fun _ => fun v10 _ => brT neg b3, fun _ => ⟨fun _ => fun v10 _ => brT neg b3, fun _ => fun v10 _ => brT neg b3⟩⟩
theorem m_noPaid {h : Hp} {Q : Int32 → Hp → Prop} {a : Row} {t m : Nat} {f : Nat → Int} (O : LandOK a) (e2 : gI h 99 2 = a 2) (ht : t < 4) (hs : ¬ gI h 124 t = -1) (hm : 1 ≤ m ∧ m ≤ 8) (em : gI h 125 t = nI m) (ef : ∀ j, j < m → (gJ h 126 (40 * t + j)).toInt = f j) (kb : (∃ j, j < m ∧ ¬ gdW a (f j)) → Q (-3) h) (k : (∀ j, j < m → gdW a (f j)) → Q 0 h) : M_noPaid (nI t) h Q := by
  have h16 := O.2.1.1
  unfold M_noPaid
  refine m_noTray (fun q => absurd ⟨t, ht, rfl⟩ q) (fun t' ht' et hn => ?_) (fun t' ht' et hn => ?_)
  · rw [nI_eq (by omega) (by omega)] at et
    subst et
    exact absurd hn hs
  refine brT rfl ⟨pk_in t 4 ht, ?_⟩
  rw [cl t, em]
  refine m_inY (by rw [i_l, nI_toInt (by omega)]; show (1 : Int) ≤ _; omega) (by rw [i_l, nI_toInt (by omega)]; show _ ≤ (8 : Int); omega) (brF' (by decide) ?_)
  refine pk_loop (σ := Unit) (fun n i _ => M_noPaid_L34 (nI t) Q n (nI i) h) (fun i _ => ∀ j, j < i → gdW a (f j)) m 0 () (by omega) (fun j hj => absurd hj (by omega)) (fun n _ hs => ?_) (fun n i _ hi hs hk => ?_)
  · unfold M_noPaid_L34
    refine ⟨pk_in t 4 ht, ?_⟩
    rw [cl t, em]
    exact pk_le m m (fun _ => k hs) (fun q => absurd q (by omega))
  · unfold M_noPaid_L34
    have e40 : (40 : Int32) * nI t + nI i = nI (40 * t + i) := by
      show nI 40 * nI t + nI i = _
      rw [pk_mul, nI_add]
    rw [e40]
    refine ⟨pk_in t 4 ht, ?_⟩
    rw [cl t, em]
    refine pk_le m i (fun q => absurd q (by omega)) (fun _ => ⟨pk_in (40 * t + i) 160 (by omega), ?_⟩)
    rw [cl (40 * t + i)]
    have ei : (gJ h 126 (40 * t + i)).toInt = f i := ef i hi
    generalize gJ h 126 (40 * t + i) = v at ei
    intro v5 hv5
    rw [hv5]
    have l0 : (0 : Int64).toInt = 0 := rfl
    have bad : ¬ gdW a (f i) → Q (-3) h := fun e => kb ⟨i, hi, e⟩
    by_cases hv : 0 ≤ f i
    · refine brF (by rw [l_lt]; omega) ?_
      obtain ⟨n', hn'⟩ : ∃ n' : Nat, v.toInt = n' := ⟨v.toInt.toNat, by omega⟩
      have n63 : n' < 2 ^ 63 := by have := l_bd v; omega
      obtain ⟨d1, d2, d3⟩ := lrem hn' n63 (show 0 < 1000 by decide) (by decide)
      have d2 : v / 1000 = lN (n' / 1000) := d2
      have d3 : v - v / 1000 * 1000 = lN (n' % 1000) := d3
      rw [d3, d2]
      have l1 : (1 : Int64).toInt = 1 := rfl
      have l199 : (199 : Int64).toInt = 199 := rfl
      by_cases g1 : n' / 1000 < nR a
      · refine m_rdY e2 O (by rw [pk_lT (by omega)]; omega) (by rw [pk_lT (by omega)]; omega) (brF (by decide) ?_)
        by_cases g2 : 1 ≤ n' % 1000 ∧ n' % 1000 ≤ 199
        · refine m_inY (by rw [pk_lT (by omega)]; omega) (by rw [pk_lT (by omega)]; omega) (brF' (by decide) ?_)
          rintro _ rfl
          rw [nI_1]
          refine hk () (fun j hj => ?_)
          by_cases e : j = i
          · subst e; exact ⟨hv, by omega, by omega, by omega⟩
          · exact hs j (by omega)
        · exact m_inN (by rw [pk_lT (by omega)]; omega) (brT' rfl (bad (fun e => g2 ⟨by have := e.2.2.1; omega, by have := e.2.2.2; omega⟩)))
      · exact m_rdN e2 O (by rw [pk_lT (by omega)]; omega) (brT rfl (bad (fun e => g1 (by have := e.2.1; omega))))
    · exact brT (by rw [l_lt]; omega) (bad (fun e => hv e.1))
theorem m_weathersOf {h0 : Hp} {Q : Int32 → Hp → Prop} {a : Row} {t m : Nat} {f : Nat → Int} (O : LandOK a) (h99 : ∀ j, gI h0 99 j = a j) (ht : t < 4) (hm : m ≤ 8) (em : gI h0 125 t = nI m) (ef : ∀ j, j < m → (gJ h0 126 (40 * t + j)).toInt = f j) (hg : ∀ j, j < m → gdW a (f j)) (k : ∀ h1, Fp scM h0 h1 → (∀ j, gI h1 99 j = a j) → Q (nI (bset (okW a f m) 10)) h1) : M_weathersOf (nI t) h0 Q := by
  have h16 := O.2.1.1
  unfold M_weathersOf
  refine pk_loop (σ := Int32 × Hp) (fun n i s => M_weathersOf_L4 (nI t) Q n s.1 (nI i) s.2) (fun i s => s.1 = nI (bset (okW a f m) i) ∧ Fp scM h0 s.2 ∧ ∀ j, gI s.2 99 j = a j) 10 0 (0, h0) (by omega) ⟨rfl, Fp.rf _ h0, h99⟩ (fun n s hs => ?_) (fun n w s hw hs hk => ?_)
  · unfold M_weathersOf_L4
    exact pk_le 10 10 (fun _ => by rw [hs.1]; exact k s.2 hs.2.1 hs.2.2) (fun q => absurd q (by omega))
  · obtain ⟨set, h⟩ := s
    obtain ⟨s1, s2, s3⟩ := hs
    unfold M_weathersOf_L4
    refine pk_le 10 w (fun q => absurd q (by omega)) (fun _ => ?_)
    refine pk_loop (σ := Int32 × Hp) (fun n' i s => M_weathersOf_L16 (nI t) set (nI w) _ n' s.1 (nI i) s.2) (fun i s => s.1 = (if okW a f i w then 1 else 0) ∧ Fp scM h0 s.2 ∧ ∀ j, gI s.2 99 j = a j) m 0 (1, h) (by omega) ⟨rfl, s2, s3⟩ (fun n' s hs => ?_) (fun n' i s hi hs hk' => ?_)
    · obtain ⟨is, h1⟩ := s
      obtain ⟨i1, i2, i3⟩ := hs
      have em1 : gI h1 125 t = nI m := (i2.1 125 t rfl).trans em
      unfold M_weathersOf_L16
      refine ⟨pk_in t 4 ht, ?_⟩
      rw [cl t, em1]
      refine pk_le m m (fun _ => ?_) (fun q => absurd q (by omega))
      rintro J rfl
      have go : ∀ b : Nat, b = (if okW a f m w then 2 ^ w else 0) → ∀ v13 : Int32, v13 = (set ||| nI b) → ∀ v14 : Int32, v14 = (nI w + 1) → M_weathersOf_L4 (nI t) Q n v13 v14 h1 := by
        rintro b hb _ rfl _ rfl
        rw [nI_1]
        refine hk (set ||| nI b, h1) ⟨?_, i2, i3⟩
        show set ||| nI b = _
        have s1 : set = _ := s1
        rw [s1, z_or, hb, bset_or]
      have i1 : is = _ := i1
      by_cases q : okW a f m w = true
      · rw [if_pos q] at i1
        refine brF (show ¬ is = 0 by rw [i1]; decide) ?_
        rw [z_1 w (by omega)]
        exact go _ (by rw [if_pos q])
      · rw [if_neg q] at i1
        exact brT i1 (go 0 (by rw [if_neg q]))
    · obtain ⟨is, h1⟩ := s
      obtain ⟨i1, i2, i3⟩ := hs
      have em1 : gI h1 125 t = nI m := (i2.1 125 t rfl).trans em
      unfold M_weathersOf_L16
      have e40 : (40 : Int32) * nI t + nI i = nI (40 * t + i) := by
        show nI 40 * nI t + nI i = _
        rw [pk_mul, nI_add]
      rw [e40]
      refine ⟨pk_in t 4 ht, ?_⟩
      rw [cl t, em1]
      refine pk_le m i (fun q => absurd q (by omega)) (fun _ => ⟨pk_in (40 * t + i) 160 (by omega), ?_⟩)
      rw [cl (40 * t + i), i2.2 126 _ rfl]
      have ei : (gJ h0 126 (40 * t + i)).toInt = f i := ef i hi
      obtain ⟨g1, g2, g3, g4⟩ := hg i hi
      obtain ⟨n2, hn2⟩ : ∃ n2 : Nat, f i = n2 := ⟨(f i).toNat, by omega⟩
      rw [l_i' (r := n2) _ (ei.trans hn2) (by omega)]
      intro v1 hv1
      rw [hv1]
      have ed : nI n2 / 1000 = nI (n2 / 1000) := pk_div (by omega) (by decide) (by decide)
      have er : nI n2 - nI n2 / 1000 * 1000 = nI (n2 % 1000) := pk_rem (by omega) (by decide) (by decide)
      rw [er, ed]
      refine m_payBy O (by omega) i3 (fun h2 f2 h99' => ?_)
      rintro J rfl
      have fd : (f i / 1000).toNat = n2 / 1000 := by omega
      have pb := payA_bd a w (n2 / 1000)
      have l100 : (100 : Int32).toInt = 100 := by decide
      have eq : payA a w (n2 / 1000) + 100 = nI (n2 % 1000) ↔ (payA a w (f i / 1000).toNat).toInt + 100 = f i % 1000 := by
        rw [fd, i_eq, i_add (by rw [l100]; omega), nI_toInt (by omega), l100]
        omega
      rw [eq]
      have i1 : is = _ := i1
      have inv' : ∀ b : Int32, b = (if (payA a w (f i / 1000).toNat).toInt + 100 = f i % 1000 then 1 else 0) → is &&& b = (if okW a f (i + 1) w then 1 else 0) := by
        rintro b hb
        show is &&& b = if (okW a f i w && decide ((payA a w (f i / 1000).toNat).toInt + 100 = f i % 1000)) then 1 else 0
        rw [i1, hb]
        by_cases c1 : okW a f i w = true
        · by_cases c2 : (payA a w (f i / 1000).toNat).toInt + 100 = f i % 1000
          · simp [c1, c2]
          · simp [c1, c2]
        · by_cases c2 : (payA a w (f i / 1000).toNat).toInt + 100 = f i % 1000
          · simp [c1, c2]
          · simp [c1, c2]
      refine ⟨fun q => ?_, fun q => ?_⟩
      · rintro _ rfl _ rfl
        rw [nI_1 i]
        exact hk' (is &&& 0, h2) ⟨inv' 0 (by rw [if_neg q]), i2.tr f2, h99'⟩
      · rintro _ rfl _ rfl
        rw [nI_1 i]
        exact hk' (is &&& 1, h2) ⟨inv' 1 (by rw [if_pos q]), i2.tr f2, h99'⟩
