/-! moves -/
def goS (a : Row) (w e : Nat) (s : Row) : Row := fun k => if k = 0 then nI (ttA a e) else if k = 1 then s 1 + ppA a w e else if k = 2 then s 2 + 1 else s k
theorem clampP_bd (v : Int32) : -99 ≤ (clampP v).toInt ∧ (clampP v).toInt ≤ 99 := by
  have h1 : (-99 : Int32).toInt = -99 := by decide
  have h2 : (99 : Int32).toInt = 99 := by decide
  unfold clampP
  by_cases q : -99 ≤ v
  · rw [if_pos q]
    by_cases q2 : v ≤ 99
    · rw [if_pos q2]; rw [i_le] at q q2; omega
    · rw [if_neg q2]; omega
  · rw [if_neg q]; omega
theorem ppA_bd (a : Row) (w e : Nat) : -99 ≤ (ppA a w e).toInt ∧ (ppA a w e).toInt ≤ 99 := by
  unfold ppA
  split
  · exact clampP_bd _
  · decide
theorem goS_1 {a s : Row} {B : Int} {w e : Nat} (h : -B ≤ (s 1).toInt ∧ (s 1).toInt ≤ B) (hB : B + 99 < 2 ^ 31) : (goS a w e s 1).toInt = (s 1).toInt + (ppA a w e).toInt := by
  have := ppA_bd a w e
  show (s 1 + ppA a w e).toInt = _
  rw [i_add (by omega)]
theorem goS_ok {a s : Row} {B : Int} {w p e : Nat} (O : LandOK a) (h : StdOK a s B) (hp : p < nP a) (hw : wayOK a w p e) (hB : B + 99 < 2 ^ 31) : StdOK a (goS a w e s) (B + 99) := by
  refine ⟨⟨ttA a e, ttA_lt O hp hw, rfl⟩, h.2.1, fun q hq => ?_, ?_⟩
  · have : goS a w e s (4 + q) = s (4 + q) := by
      unfold goS; rw [if_neg (by omega), if_neg (by omega), if_neg (by omega)]
    rw [this]; exact h.2.2.1 q hq
  · rw [goS_1 h.2.2.2 hB]
    have := ppA_bd a w e
    have := h.2.2.2
    omega
theorem Lnd_k {h h1 : Hp} {a : Row} (L : Lnd h a) (k : ∀ o j, 14 ≤ o → o ≤ 19 → gI h1 o j = gI h o j) : Lnd h1 a := LndR_k L (fun x j hx => k x j (by omega) (by omega))
theorem i2l_add {x y : Int32} (h : -2147483648 ≤ x.toInt + y.toInt ∧ x.toInt + y.toInt < 2147483648) : (x + y).toInt64 = x.toInt64 + y.toInt64 := by
  have hx := i_bd x
  have hy := i_bd y
  apply Int64.toInt_inj.mp
  rw [i_l, i_add h, l_add (by rw [i_l, i_l]; omega), i_l, i_l]
theorem c_goAlong {h : Hp} {Q : Hp → Prop} {a s : Row} {B : Int} {o pl w p e : Nat} (L : Lnd h a) (O : LandOK a) (R : StdR h o pl s) (ho : o = 20 ∨ o = 22) (hpl : pl = o + 1) (sO : StdOK a s B) (hB : B + 99 < 2 ^ 31) (hp : s 0 = nI p) (hw : w < 10) (ew : s 3 = nI w) (we : wayOK a w p e) (k : ∀ h1, Fp (oP o pl) h h1 → Lnd h1 a → StdR h1 o pl (goS a w e s) → Q h1) : Stand_goAlong o (nI (tw e)) h Q := by
  obtain ⟨r1, r2, r3, r4, r5⟩ := id R
  unfold Stand_goAlong
  rw [r4, ew, r2]
  refine c_pay L O hw we ?_
  rintro h3 rfl
  have L3 : Lnd (sJ h o 1 ((s 1).toInt64 + (ppA a w e).toInt64)) a := Lnd_k L (fun x j _ _ => rfl)
  have e0 : gI (sJ h o 1 ((s 1).toInt64 + (ppA a w e).toInt64)) o 0 = nI p := r1.trans hp
  rw [e0]
  refine c_tgt L3 O we ?_
  rintro h6 rfl h7 rfl
  have f : ∀ j, oP o pl o j = true := fun j => by simp [oP]
  refine k _ (Fp.sI (Fp.sI (Fp.sJ (Fp.rf _ h) (f 1)) (f 0)) (f 2)) (Lnd_k L (fun x j h1 h2 => by rw [sI_o (by omega), sI_o (by omega)]; rfl)) ⟨?_, ?_, ?_, ?_, fun q hq => ?_⟩
  · rw [sI_k (by decide), sI_s]; rfl
  · show gJ (sJ h o 1 _) o 1 = _
    rw [sJ_s]
    have := ppA_bd a w e
    have := sO.2.2.2
    exact (i2l_add (by omega)).symm
  · rw [sI_s, sI_k (by decide)]
    show gI h o 2 + 1 = _
    rw [r3]; rfl
  · rw [sI_k (by decide), sI_k (by decide)]
    show gI h o 3 = _
    rw [r4]; rfl
  · rw [sI_o (by omega), sI_o (by omega)]
    show gI h pl q = _
    rw [r5 q hq]
    unfold goS; rw [if_neg (by omega), if_neg (by omega), if_neg (by omega)]
/-- a move by plan -/
def stp (a : Row) (s : Row) : Row := goS a (s 3).toInt.toNat (wayP a (s 3).toInt.toNat (s (4 + (s 0).toInt.toNat)) (s 0).toInt.toNat) s
theorem stp_eq {a s : Row} {w p : Nat} (ew : s 3 = nI w) (hw : w < 10) (ep : s 0 = nI p) (hp : p < 8) : stp a s = goS a w (wayP a w (s (4 + p)) p) s := by
  unfold stp
  rw [show (s 3).toInt.toNat = w by rw [ew, nI_toInt (by omega)]; rfl, show (s 0).toInt.toNat = p by rw [ep, nI_toInt (by omega)]; rfl]
theorem stp_ok {a s : Row} {B : Int} (O : LandOK a) (h : StdOK a s B) (hB : B + 99 < 2 ^ 31) : StdOK a (stp a s) (B + 99) := by
  obtain ⟨t, ht, et⟩ := h.1
  obtain ⟨w, hw, ew⟩ := h.2.1
  have h8 := O.1.2.1
  rw [stp_eq ew hw et (by omega)]
  exact goS_ok O h ht (wayP_ok O (by omega) _) hB
theorem rfS : rf 20 4 = 21 ∧ rf 22 4 = 23 := by decide
theorem rfSo {o pl : Nat} (ho : o = 20 ∨ o = 22) (hpl : pl = o + 1) : rf o 4 = pl := by
  rcases ho with rfl | rfl
  · rw [hpl]; exact rfS.1
  · rw [hpl]; exact rfS.2
theorem c_goByPlan {h : Hp} {Q : Hp → Prop} {a s : Row} {B : Int} {o pl : Nat} (L : Lnd h a) (O : LandOK a) (R : StdR h o pl s) (ho : o = 20 ∨ o = 22) (hpl : pl = o + 1) (sO : StdOK a s B) (hB : B + 99 < 2 ^ 31) (k : ∀ h1, Fp (oP o pl) h h1 → Lnd h1 a → StdR h1 o pl (stp a s) → Q h1) : Stand_goByPlan o h Q := by
  obtain ⟨t, ht, et⟩ := sO.1
  obtain ⟨w, hw, ew⟩ := sO.2.1
  have h8 := O.1.2.1
  unfold Stand_goByPlan
  rw [R.1, et]
  refine c_wayByPlan L O R (rfSo ho hpl) hw ew (by omega) (sO.2.2.1 t (by omega)) ?_
  refine c_goAlong L O R ho hpl sO hB et hw ew (wayP_ok O (by omega) _) (fun h1 f1 L1 R1 => k h1 f1 L1 ?_)
  rw [stp_eq ew hw et (by omega)]; exact R1
def oG : Nat → Nat → Bool := fun o j => o == 99 && (decide (58 ≤ j) && decide (j < 61))
theorem ways_e {h : Hp} {a : Row} {w p e : Nat} (z : WaysM h a w) (hp : p < nP a) (we : wayOK a w p e) : gI h 106 e = nI (ttA a e) ∧ gI h 107 e = ppA a w e := by
  unfold ttA ppA
  rcases we with ⟨h1, h2, _, _⟩ | ⟨_, rfl⟩
  · rw [if_pos h1, if_pos h1]; exact (z.2.1 e h2).2
  · rw [if_neg (by omega), if_neg (by omega), show 16 + p - 16 = p by omega]; exact (z.2.2 p hp).2
theorem m_goes {h : Hp} {Q : Int32 → Hp → Prop} {a s : Row} {w p e : Nat} (z : WaysM h a w) (hp : p < nP a) (h24 : e < 24) (we : wayOK a w p e) (hs : ∀ k, k < 12 → gI h 99 (58 + k) = s k) (k : ∀ h1, Fp oG h h1 → (∀ k, k < 12 → gI h1 99 (58 + k) = goS a w e s k) → Q (ppA a w e) h1) : M_goesWay (nI e) h Q := by
  obtain ⟨z1, z2⟩ := ways_e z hp we
  unfold M_goesWay
  refine ⟨pk_in e 24 h24, ?_⟩
  rintro h1 rfl
  refine ⟨pk_in e 24 h24, ?_⟩
  rintro h2 rfl h3 rfl
  refine ⟨pk_in e 24 h24, ?_⟩
  rw [cl e, z1]
  have e107 : gI (sI h 99 58 (nI (ttA a e))) 107 e = ppA a w e := by rw [sI_o (by decide)]; exact z2
  rw [e107]
  have e107b : ∀ x y, gI (sI (sI (sI h 99 58 (nI (ttA a e))) 99 59 x) 99 60 y) 107 e = ppA a w e := fun x y => by
    rw [sI_o (by decide), sI_o (by decide)]; exact e107
  rw [e107b]
  refine k _ (Fp.sI (Fp.sI (Fp.sI (Fp.rf _ h) (by decide)) (by decide)) (by decide)) (fun j hj => ?_)
  have s1 := hs 1 (by omega)
  have s2 := hs 2 (by omega)
  unfold goS
  by_cases j0 : j = 0
  · subst j0; rw [sI_k (by decide), sI_k (by decide), sI_s, if_pos rfl]
  · by_cases j1 : j = 1
    · subst j1; rw [sI_k (by decide), sI_s, if_neg (by decide), if_pos rfl, sI_k (by decide)]
      rw [s1]
    · by_cases j2 : j = 2
      · subst j2; rw [sI_s, if_neg (by decide), if_neg (by decide), if_pos rfl, sI_k (by decide), sI_k (by decide)]
        rw [s2]
      · rw [sI_k (by omega), sI_k (by omega), sI_k (by omega), if_neg j0, if_neg j1, if_neg j2]
        exact hs j hj
theorem le_ways {h : Hp} {a b : Row} {w : Nat} (O : LandOK a) (E : LSame a b) (z : WaysM h b w) : WaysM h a w := by
  have h16 := O.2.1.1
  obtain ⟨z1, z2, z3⟩ := z
  refine ⟨fun p hp => ?_, fun r hr => ?_, fun p hp => ?_⟩
  · rw [z1 p hp, le_nP E, le_wys O E]
  · have := z2 r (by rw [le_nR E]; exact hr)
    rw [le_from E (by omega), le_to E (by omega), le_pay O E (by omega)] at this
    exact this
  · exact z3 p (by rw [le_nP E]; exact hp)
theorem m_ways' {h : Hp} {Q : Hp → Prop} {a : Row} {w : Nat} (O : LandOK a) (E : LSame a (rowM h)) (hw : gI h 99 61 = nI w) (k : ∀ h1, Fr oW h h1 → rowM h1 = rowM h → WaysM h1 a w → Q h1) : M_laysWays h Q :=
  s_laysWays (a := rowM h) (le_ok O E) (fun j => rfl) hw (fun h1 f1 z => k h1 f1 (funext (fun j => f1.1 99 j rfl)) (le_ways O E z))
theorem WaysM_k {h h1 : Hp} {a : Row} {w : Nat} (z : WaysM h a w) (k : ∀ o j, 105 ≤ o → o ≤ 108 → gI h1 o j = gI h o j) : WaysM h1 a w := by
  obtain ⟨z1, z2, z3⟩ := z
  refine ⟨fun p hp => ?_, fun r hr => ?_, fun p hp => ?_⟩
  · rw [k 108 p (by omega) (by omega)]; exact z1 p hp
  · rw [k 105 r (by omega) (by omega), k 106 r (by omega) (by omega), k 107 r (by omega) (by omega)]; exact z2 r hr
  · rw [k 105 _ (by omega) (by omega), k 106 _ (by omega) (by omega), k 107 _ (by omega) (by omega)]; exact z3 p hp
theorem m_goPlan {h : Hp} {Q : Hp → Prop} {a s : Row} {B : Int} {w : Nat} (O : LandOK a) (z : WaysM h a w) (sO : StdOK a s B) (ew : s 3 = nI w) (hw : w < 10) (hs : ∀ k, k < 12 → gI h 99 (58 + k) = s k) (k : ∀ h1, Fp oG h h1 → (∀ k, k < 12 → gI h1 99 (58 + k) = stp a s k) → Q h1) : M_planned (gI h 99 58) h (fun r h1 => M_goesWay r h1 (fun _ h2 => Q h2)) := by
  obtain ⟨t, ht, et⟩ := sO.1
  have h8 := O.1.2.1
  rw [show gI h 99 58 = nI t from (hs 0 (by omega)).trans et]
  refine m_planned O z.1 ht (show gI h 99 (62 + t) = s (4 + t) from by rw [← hs (4 + t) (by omega)]; congr 1; omega) (sO.2.2.1 t (by omega)) ?_
  have we := wayP_ok O (w := w) (p := t) (by omega) (s (4 + t))
  refine m_goes z ht (way24 O (by omega) we) we hs (fun h1 f1 h2 => k h1 f1 ?_)
  rw [stp_eq ew hw et (by omega)]; exact h2
/-! why not -/
def whyM (a : Row) (w p : Nat) (x : Int) : Int32 := if x = 16 then (if obs a w p = 0 then 0 else 1) else if 0 ≤ x ∧ x < nR a then (if fromA a x.toNat = p then (if opnA a w x.toNat then 0 else 3) else 2) else 1
def wayX (p : Nat) (x : Int) : Nat := if x = 16 then 16 + p else x.toNat
theorem whyM_ok {a : Row} (O : LandOK a) {w p : Nat} {x : Int} (h : whyM a w p x = 0) : wayOK a w p (wayX p x) ∧ (0 ≤ x ∧ x ≤ 16) ∧ tw (wayX p x) = x.toNat := by
  have h16 := O.2.1.1
  unfold whyM at h
  unfold wayX tw
  by_cases q : x = 16
  · rw [if_pos q] at h ⊢
    by_cases q2 : obs a w p = 0
    · subst q; exact ⟨Or.inr ⟨q2, rfl⟩, by omega, by rw [if_neg (by omega)]; rfl⟩
    · rw [if_neg q2] at h; exact absurd h (by decide)
  · rw [if_neg q] at h ⊢
    by_cases q2 : 0 ≤ x ∧ x < nR a
    · rw [if_pos q2] at h
      by_cases q3 : fromA a x.toNat = p
      · rw [if_pos q3] at h
        by_cases q4 : opnA a w x.toNat = true
        · exact ⟨Or.inl ⟨by omega, by omega, q3, q4⟩, by omega, by rw [if_pos (by omega)]⟩
        · rw [if_neg q4] at h; exact absurd h (by decide)
      · rw [if_neg q3] at h; exact absurd h (by decide)
    · rw [if_neg q2] at h; exact absurd h (by decide)
theorem c_whyMove {h : Hp} {Q : Int32 → Hp → Prop} {a s : Row} {o pl w p : Nat} {x : Int32} (L : Lnd h a) (O : LandOK a) (R : StdR h o pl s) (hp : p < nP a) (ep : s 0 = nI p) (hw : w < 10) (ew : s 3 = nI w) (k : Q (whyM a w p x.toInt) h) : Stand_whyNotMove o x h Q := by
  have h16 := O.2.1.1
  have h8 := O.1.2.1
  have x16 : (16 : Int32).toInt = 16 := by decide
  unfold Stand_whyNotMove
  refine ⟨fun q => ?_, fun q => ?_⟩
  · have q' : ¬ x.toInt = 16 := fun e => q (i_eq.mpr (e.trans x16.symm))
    unfold whyM at k
    rw [if_neg q'] at k
    by_cases hx : ∃ r, r < nR a ∧ x = nI r
    · obtain ⟨r, hr, rfl⟩ := hx
      rw [nI_toInt (by omega), if_pos ⟨by omega, by omega⟩] at k
      have k : Q (if fromA a r = p then (if opnA a w r then 0 else 3) else 2) h := k
      refine c_rdY L O hr (brF' (by decide) ⟨pk_in r 16 (by omega), ?_⟩)
      rw [pk_cl r, (L.2.2.2.2.1 r hr).1, (O.2.2.1 r hr).1.1, R.1, ep, R.2.2.2.1, ew]
      rw [nI_eq (by have := (O.2.2.1 r hr).1.2; omega) (by omega)]
      refine ⟨fun e => ?_, fun e => ?_⟩
      · rw [if_pos e] at k
        refine c_isOpen L O hw hr ?_
        by_cases q : opnA a w r = true
        · rw [if_pos q] at k ⊢; exact brF (by decide) k
        · rw [if_neg q] at k ⊢; exact brT rfl k
      · rw [if_neg e] at k; exact k
    · rw [if_neg (fun e => hx ((exN (by omega)).mpr e))] at k
      exact c_rdN L O hx (brT' rfl k)
  · rw [show x.toInt = 16 by rw [q]; exact x16] at k
    unfold whyM at k
    rw [if_pos rfl] at k
    rw [R.1, ep, R.2.2.2.1, ew]
    refine c_openFrom L O hw (by omega) ?_
    have := obs_lt O w p
    rw [show (0 : Int32) = nI 0 from rfl, nI_eq (by omega) (by decide)]
    by_cases q2 : obs a w p = 0
    · rw [if_pos q2] at k; exact brT' q2 k
    · rw [if_neg q2] at k; exact brF' q2 k
theorem l_i' (x : Int64) {r : Nat} (h : x.toInt = r) (hr : r < 2 ^ 31) : x.toInt32 = nI r := by
  apply Int32.toInt_inj.mp
  rw [l_i (by omega), nI_toInt hr]; exact h
theorem m_whyMove {h : Hp} {Q : Int32 → Hp → Prop} {a s : Row} {w p : Nat} {x : Int64} (O : LandOK a) (E : LSame a (rowM h)) (hs : ∀ k, k < 12 → gI h 99 (58 + k) = s k) (hp : p < nP a) (ep : s 0 = nI p) (hw : w < 10) (ew : s 3 = nI w) (k : ∀ h1, Fp scM h h1 → rowM h1 = rowM h → WaysM h1 a w → Q (whyM a w p x.toInt) h1) : M_whyMove x h Q := by
  have h16 := O.2.1.1
  have h8 := O.1.2.1
  have x16 : (16 : Int64).toInt = 16 := by decide
  have e61 : gI h 99 61 = nI w := (hs 3 (by omega)).trans ew
  have e58 : gI h 99 58 = nI p := (hs 0 (by omega)).trans ep
  unfold M_whyMove
  refine m_ways' O E e61 (fun h1 f1 r1 z => ?_)
  have f1 := f1.fp scM_W
  have k1 := k h1 f1 r1 z
  have E1 : LSame a (rowM h1) := by rw [r1]; exact E
  have g99 : ∀ j, gI h1 99 j = gI h 99 j := fun j => congrFun r1 j
  have e1 : ∀ j, j < 58 → gI h1 99 j = a j := fun j hj => E1.c j hj
  refine ⟨fun q => ?_, fun q => ?_⟩
  · have q' : ¬ x.toInt = 16 := fun e => q (l_eq.mpr (e.trans x16.symm))
    unfold whyM at k1
    rw [if_neg q'] at k1
    by_cases hx : 0 ≤ x.toInt ∧ x.toInt < nR a
    · obtain ⟨r, er⟩ : ∃ r : Nat, x.toInt = r := ⟨x.toInt.toNat, by omega⟩
      have hr : r < nR a := by omega
      refine m_rdY (e1 2 (by omega)) O (by omega) (by omega) (brF' (by decide) ?_)
      rw [l_i' x er (by omega)]
      have e10 : (10 : Int32) + nI r = nI (10 + r) := nI_add 10 r
      rw [e10]
      refine ⟨pk_in (10 + r) 3276 (by omega), ?_⟩
      rw [pk_cl (10 + r), e1 _ (by omega), (O.2.2.1 r hr).1.1, g99 58, e58, nI_eq (by have := (O.2.2.1 r hr).1.2; omega) (by omega)]
      rw [if_pos hx, er] at k1
      have k1 : Q (if fromA a r = p then (if opnA a w r then 0 else 3) else 2) h1 := k1
      refine ⟨fun e => ?_, fun e => ?_⟩
      · refine s_isOpen (a := rowM h1) (w := w) (le_ok O E1) (by rw [le_nR E1]; exact hr) (fun j => rfl) ((g99 61).trans e61) (fun h2 f2 => ?_)
        have k2 := k h2 (f1.tr (f2.toW.fp scM_W)) ((funext (fun j => f2.1 99 j rfl)).trans r1) (WaysM_k z (fun o j h1 h2 => f2.1 o j (by simp only [o2, Bool.or_eq_false_iff, beq_eq_false_iff_ne]; omega)))
        unfold whyM at k2
        rw [if_neg q', if_pos hx, er] at k2
        have k2 : Q (if fromA a r = p then (if opnA a w r then 0 else 3) else 2) h2 := k2
        rw [if_pos e] at k2
        rw [le_opn O E1 (by omega)]
        by_cases q : opnA a w r = true
        · rw [if_pos q] at k2 ⊢; exact brF (by decide) k2
        · rw [if_neg q] at k2 ⊢; exact brT rfl k2
      · rw [if_neg e] at k1; exact k1
    · rw [if_neg hx] at k1
      exact m_rdN (e1 2 (by omega)) O hx (brT' rfl k1)
  · rw [show x.toInt = 16 by rw [q]; exact x16] at k1
    unfold whyM at k1
    rw [if_pos rfl] at k1
    rw [g99 58, e58]
    have e16 : (16 : Int32) + nI p = nI (16 + p) := nI_add 16 p
    rw [e16]
    refine ⟨pk_in p 8 (by omega), ?_⟩
    rw [cl p, z.1 p (by omega), if_pos hp]
    have wl := wys_lt O (w := w) (p := p) (by omega)
    refine s_isIn (by omega) (by omega) ?_
    by_cases q2 : obs a w p = 0
    · rw [if_pos q2] at k1
      rw [if_pos ((wys_tb O).mpr (Or.inr ⟨q2, rfl⟩))]
      exact brF (by decide) k1
    · rw [if_neg q2] at k1
      have hn : ¬ (wys a w p).testBit (16 + p) = true := fun e => by
        rcases (wys_tb O).mp e with ⟨h1, _⟩ | ⟨h1, _⟩
        · omega
        · exact q2 h1
      rw [if_neg hn]
      exact brT rfl k1
def whyP (a : Row) (p r : Int) : Int32 := if 0 ≤ p ∧ p < nP a then (if r = -1 then 0 else if 0 ≤ r ∧ r < nR a then (if (fromA a r.toNat : Int) = p then 0 else 2) else 1) else 1
theorem c_whyPlan {h : Hp} {Q : Int32 → Hp → Prop} {a : Row} {o : Nat} {x y : Int32} (L : Lnd h a) (O : LandOK a) (k : Q (whyP a x.toInt y.toInt) h) : Stand_whyNotPlan o x y h Q := by
  have h16 := O.2.1.1
  have h8 := O.1.2.1
  have m1 : (-1 : Int32).toInt = -1 := by decide
  unfold Stand_whyNotPlan
  unfold whyP at k
  by_cases hx : ∃ p, p < nP a ∧ x = nI p
  · obtain ⟨p, hp, rfl⟩ := hx
    rw [nI_toInt (by omega), if_pos ⟨by omega, by omega⟩] at k
    refine c_plY L O hp (brF' (by decide) ⟨fun q => ?_, fun q => ?_⟩)
    · rw [if_neg (fun e => q (i_eq.mpr (e.trans m1.symm)))] at k
      by_cases hy : ∃ r, r < nR a ∧ y = nI r
      · obtain ⟨r, hr, rfl⟩ := hy
        rw [nI_toInt (by omega), if_pos ⟨by omega, by omega⟩] at k
        have k : Q (if (fromA a r : Int) = p then 0 else 2) h := k
        refine c_rdY L O hr (brF' (by decide) ⟨pk_in r 16 (by omega), ?_⟩)
        rw [pk_cl r, (L.2.2.2.2.1 r hr).1, (O.2.2.1 r hr).1.1, nI_eq (by have := (O.2.2.1 r hr).1.2; omega) (by omega)]
        by_cases e : fromA a r = p
        · rw [if_pos (by omega)] at k; exact brT' e k
        · rw [if_neg (by omega)] at k; exact brF' e k
      · rw [if_neg (fun e => hy ((exN (by omega)).mpr e))] at k
        exact c_rdN L O hy (brT' rfl k)
    · rw [if_pos (by rw [q]; exact m1)] at k; exact k
  · rw [if_neg (fun e => hx ((exN (by omega)).mpr e))] at k
    exact c_plN L O hx (brT' rfl k)
theorem m_whyPlan {h : Hp} {Q : Int32 → Hp → Prop} {a : Row} {x y : Int64} (O : LandOK a) (E : LSame a (rowM h)) (k : Q (whyP a x.toInt y.toInt) h) : M_whyPlan x y h Q := by
  have h16 := O.2.1.1
  have h8 := O.1.2.1
  have m1 : (-1 : Int64).toInt = -1 := by decide
  have e1 : ∀ j, j < 58 → gI h 99 j = a j := fun j hj => E.c j hj
  unfold M_whyPlan
  unfold whyP at k
  by_cases hx : 0 ≤ x.toInt ∧ x.toInt < nP a
  · rw [if_pos hx] at k
    obtain ⟨p, ep⟩ : ∃ p : Nat, x.toInt = p := ⟨x.toInt.toNat, by omega⟩
    have hx2 : x = (nI p).toInt64 := Int64.toInt_inj.mp (by rw [i_l, nI_toInt (by omega)]; exact ep)
    have step : ∀ R : Int32 → Hp → Prop, R 1 h → M_isPlace x h R := fun R r => by rw [hx2]; exact m_plY (e1 1 (by omega)) O (by omega) r
    refine step _ (brF (by decide) ?_)
    rintro J rfl
    refine ⟨fun q => ?_, fun q => ?_⟩
    · rintro J rfl
      rw [if_pos (by rw [q]; exact m1)] at k
      exact brT q k
    · have q' : ¬ y.toInt = -1 := fun e => q (l_eq.mpr (e.trans m1.symm))
      rw [if_neg q'] at k
      by_cases hy : 0 ≤ y.toInt ∧ y.toInt < nR a
      · obtain ⟨r, er⟩ : ∃ r : Nat, y.toInt = r := ⟨y.toInt.toNat, by omega⟩
        have hr : r < nR a := by omega
        rw [if_pos hy, er] at k
        have k : Q (if (fromA a r : Int) = x.toInt then 0 else 2) h := k
        refine m_rdY (e1 2 (by omega)) O (by omega) (by omega) (brF' (by decide) ?_)
        rintro J rfl
        rw [l_i' y er (by omega)]
        have e10 : (10 : Int32) + nI r = nI (10 + r) := nI_add 10 r
        rw [e10]
        refine brF q ⟨pk_in (10 + r) 3276 (by omega), ?_⟩
        have hf := (O.2.2.1 r hr).1
        rw [pk_cl (10 + r), e1 _ (by omega), hf.1]
        have e2 : (nI (fromA a r)).toInt64 = x ↔ (fromA a r : Int) = x.toInt := by
          rw [l_eq, i_l, nI_toInt (by omega)]
        rw [e2]
        by_cases e : (fromA a r : Int) = x.toInt
        · rw [if_pos e] at k; exact brT' e k
        · rw [if_neg e] at k; exact brF' e k
      · rw [if_neg hy] at k
        exact m_rdN (e1 2 (by omega)) O hy (brT' rfl k)
  · rw [if_neg hx] at k
    exact m_plN (e1 1 (by omega)) O hx (brT rfl k)
