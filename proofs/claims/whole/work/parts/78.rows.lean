/-! rows, sums, sumsAt -/
theorem scD_S (o k : Nat) (h : scD o k = false) : oS o k = false := by
  simp only [oS, Bool.or_eq_false_iff, beq_eq_false_iff_ne]
  refine ⟨⟨⟨?_, ?_⟩, ?_⟩, ?_⟩ <;> (rintro rfl; cases h)
theorem smN_8 {f : Nat → Nat} {n : Nat} (hn : n ≤ 8) (z : ∀ p, n ≤ p → f p = 0) : smN f n = smN f 8 := by
  rw [show smN f 8 = smN f (n + (8 - n)) by rw [show n + (8 - n) = 8 by omega], smN_app, smN_z (f := fun t => f (n + t)) (fun i _ => z _ (by omega))]; rfl
theorem c_isRow {h : Hp} {Q : Int32 → Hp → Prop} {x : Int32} (kY : ∀ n, n ≤ 6 → x = nI n → Q 1 h) (kN : ¬ (∃ n, n ≤ 6 ∧ x = nI n) → Q 0 h) : C_isRow x h Q := by
  unfold C_isRow
  refine ⟨fun q => kN (fun ⟨n, hn, e⟩ => ?_), fun q => ?_⟩
  · rw [e] at q; exact absurd q (nI_pos (by omega))
  · obtain ⟨n, n31, rfl⟩ := nI_of q
    refine pk_lt 6 n (fun c => kN (fun ⟨m, hm, e⟩ => ?_)) (fun c => kY n (by omega) rfl)
    rw [nI_eq n31 (by omega)] at e; omega
theorem m_isRow {h : Hp} {Q : Int32 → Hp → Prop} {x : Int32} (kY : ∀ n, n ≤ 6 → x = nI n → Q 1 h) (kN : ¬ (∃ n, n ≤ 6 ∧ x = nI n) → Q 0 h) : M_within x.toInt64 (0 : Int64) (6 : Int64) h Q := by
  have a1 : (0 : Int64).toInt = 0 := rfl
  have a2 : (6 : Int64).toInt = 6 := rfl
  refine m_in (fun h1 h2 => ?_) (fun h1 => kN (fun ⟨n, hn, e⟩ => h1 ?_))
  · rw [a1] at h1
    rw [a2] at h2
    exact kY x.toInt.toNat (by omega) (nI_i x h1)
  · rw [a1, a2, e, nI_toInt (by omega)]; omega
/-- what is at hand when a call begins -/
theorem rowsAll {B : Int} {h : Hp} (I : Inv B h) : ∃ w t, w < 10 ∧ t < nP (rowM h) ∧ rowM h 61 = nI w ∧ rowM h 58 = nI t ∧ gI h 20 0 = nI t ∧ gI h 20 3 = nI w := by
  obtain ⟨sO, sR⟩ : iStd B h := I.2.1
  obtain ⟨t, ht, et⟩ := sO.1
  obtain ⟨w, hw, ew⟩ := sO.2.1
  exact ⟨w, t, hw, ht, ew, et, sR.1.trans et, sR.2.2.2.1.trans ew⟩
theorem c_rowsWith {h : Hp} {Q : Int32 → Hp → Prop} {c : Nat → Int → Nat} {l : Int} {s : Nat} {x : Int32} (T : TabR h c l s) (hs : s ≤ 1189) (k : Q (nI (smN (fun p => c p (l + x.toInt)) 8)) h) : Sums_rowsWith x h Q := by
  obtain ⟨t1, t2, t3, t4⟩ := T
  unfold Sums_rowsWith
  refine pk_loop (σ := Nat) (fun n i v => Sums_rowsWith_L4 x Q n (nI v) (nI i) h) (fun i v => v = smN (fun p => c p (l + x.toInt)) i) 8 0 0 (by omega) rfl (fun n v J => ?_) (fun n i v hi J hk => ?_)
  · unfold Sums_rowsWith_L4
    refine pk_le 8 8 (fun _ => ?_) (fun c => absurd c (by omega))
    rw [J]; exact k
  · unfold Sums_rowsWith_L4
    refine pk_le 8 i (fun c => absurd c (by omega)) (fun _ => c_rowsAt (v := nI (c i (l + x.toInt))) t2 hs hi (fun j hj e => by rw [t3 j i hj hi, e]) (fun q => by rw [t4 i _ hi (by omega)]; rfl) ?_)
    rw [nI_add]
    rintro _ rfl _ rfl
    rw [nI_1 i]
    exact hk _ (by rw [J]; rfl)
theorem m_rowsOf {h : Hp} {Q : Int32 → Hp → Prop} {a : Row} {c : Nat → Int → Nat} {u : Nat} (O : LandOK a) (e1 : gI h 99 1 = a 1) (e121 : ∀ k, k < 9512 → gI h 121 k = nI (mkC c k)) (cz : ∀ p s, nP a ≤ p → c p s = 0) (hu : u < 1189) (k : Q (nI (smN (fun p => c p ((u : Int) - 594)) 8)) h) : M_rowsOf (nI u) h Q := by
  have h8 := O.1.2.1
  unfold M_rowsOf
  refine pk_loop (σ := Nat) (fun n i v => M_rowsOf_L4 (nI u) Q n (nI v) (nI i) h) (fun i v => v = smN (fun p => c p ((u : Int) - 594)) i) (nP a) 0 0 (by omega) rfl (fun n v J => ?_) (fun n i v hi J hk => ?_)
  · unfold M_rowsOf_L4
    rw [e1, O.1.2.2]
    refine pk_le (nP a) (nP a) (fun _ => ?_) (fun c => absurd c (by omega))
    rw [J, smN_8 h8 (fun p hp => cz p _ hp)]; exact k
  · unfold M_rowsOf_L4
    rw [e1, O.1.2.2]
    have eX : (1189 : Int32) * nI i + nI u = nI (1189 * i + u) := by rw [show (1189 : Int32) = nI 1189 from rfl, pk_mul, nI_add]
    refine pk_le (nP a) i (fun c => absurd c (by omega)) (fun _ => ?_)
    rw [eX, cl (1189 * i + u), e121 _ (by omega), nI_add]
    refine ⟨pk_in (1189 * i + u) 9512 (by omega), ?_⟩
    rintro _ rfl _ rfl
    rw [nI_1 i]
    refine hk _ ?_
    rw [J]
    show _ = smN (fun p => c p ((u : Int) - 594)) i + c i ((u : Int) - 594)
    unfold mkC
    rw [show (1189 * i + u) / 1189 = i by omega, show (1189 * i + u) % 1189 = u by omega]
theorem sim_rows {B : Int} {x y : Int32} : Sim B B (C_rows x y) (M_rows x y) := by
  intro h K I k
  obtain ⟨O, L⟩ : iLand h := I.1
  have h8 := O.1.2.1
  obtain ⟨w, t, hw, ht, ew, et, e0, e3⟩ := rowsAll I
  by_cases hx : ∃ n, n ≤ 6 ∧ x = nI n
  · obtain ⟨n, hn, rfl⟩ := hx
    have cz := fun p s => cC_z O (w := w) ht n p s
    have sup := fun p s => cC_sup (rowM h) w t n p s
    refine sim_q I k (nI (smN (fun p => cC (rowM h) w t n p y.toInt) 8)) (fun Q hQ => ?_) (fun h1 Q I1 eR f1 hQ => ?_)
    · unfold C_rows
      refine c_isRow (fun m hm em => brF' (by decide) (c_countRows L O hw (by omega) hn e0 e3 (fun h1 l s f1 T b1 b2 b3 b4 => ?_))) (fun q => absurd ⟨n, hn, rfl⟩ q)
      have fin := hQ h1 (f1.mo scD_S)
      unfold Sums_rowsPaying
      rintro J21 rfl
      have t3 := T.1
      have out : (y.toInt < l ∨ l + s ≤ y.toInt) → Q 0 h1 := fun q => by
        rw [smN_z (f := fun p => cC (rowM h) w t n p y.toInt) (fun p hp => T.2.2.2 p _ hp q)] at fin; exact fin
      have e4 : (gI h1 92 3 + gI h1 92 4).toInt = l + s := by rw [T.2.1, i_add (by rw [t3, nI_toInt (by omega)]; omega), t3, nI_toInt (by omega)]
      refine ⟨fun q => out ?_, fun q => ⟨fun q2 => ?_, fun q2 => out ?_⟩⟩
      · rw [i_lt, t3] at q; omega
      · rw [i_lt, t3] at q
        rw [i_lt, e4] at q2
        refine c_rowsWith T b4 ?_
        rw [i_sub (by rw [t3]; omega), t3, show l + (y.toInt - l) = y.toInt by omega]
        exact fin
      · rw [i_lt, e4] at q2; omega
    · unfold M_rows
      rintro _ rfl
      refine m_isRow (fun m hm em => brF' (by decide) ?_) (fun q => absurd ⟨n, hn, rfl⟩ q)
      have a1 : (-594 : Int64).toInt = -594 := rfl
      have a2 : (594 : Int64).toInt = 594 := rfl
      refine m_in (fun h1 h2 => ?_) (fun q => ?_)
      · rw [a1] at h1
        rw [a2] at h2
        refine brF' (by decide) (m_laysRows (a := rowM h) O (fun j => by rw [sI_o (by decide)]; exact f1.1 99 j rfl) ew ht et hn (fun h2 f2 g2 e121 => ?_))
        obtain ⟨u, hu⟩ : ∃ u : Nat, (u : Int) = 594 + y.toInt := ⟨(594 + y.toInt).toNat, by omega⟩
        have l5 : (594 : Int32).toInt = 594 := by decide
        have eu : (594 : Int32) + y = nI u := by rw [i_eq, i_add (by rw [l5]; omega), l5, nI_toInt (by omega), hu]
        rw [eu]
        refine m_rowsOf O (g2 1) e121 cz (by omega) ?_
        rw [show (u : Int) - 594 = y.toInt by omega]
        exact hQ h2 (FpThr.tr f2)
      · rw [a1, a2] at q
        have := hQ _ FpThr
        rw [smN_z (f := fun p => cC (rowM h) w t n p y.toInt) (fun p hp => sup p _ (by omega))] at this
        exact brT' rfl this
  · refine sim_q I k (-3) (fun Q hQ => ?_) (fun h1 Q I1 eR f1 hQ => ?_)
    · unfold C_rows
      exact c_isRow (fun m hm em => absurd ⟨m, hm, em⟩ hx) (fun _ => brT' rfl (hQ h (Fp.rf _ h)))
    · unfold M_rows
      rintro _ rfl
      exact m_isRow (fun m hm em => absurd ⟨m, hm, em⟩ hx) (fun _ => brT' rfl (hQ _ FpThr))
