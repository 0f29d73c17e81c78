/-! told deeds -/
theorem m_whyMoveF {h : Hp} {Q : Int32 → Hp → Prop} {a s : Row} {w p : Nat} {x : Int64} (O : LandOK a) (E : LSame a (rowM h)) (hs : ∀ k, k < 12 → gI h 99 (58 + k) = s k) (hp : p < nP a) (ep : s 0 = nI p) (hw : w < 10) (ew : s 3 = nI w) (k : ∀ h1, Fr oW h h1 → rowM h1 = rowM h → WaysM h1 a w → Q (whyM a w p x.toInt) h1) : M_whyMove x h Q := by
  have h16 := O.2.1.1
  have h8 := O.1.2.1
  have x16 : (16 : Int64).toInt = 16 := by decide
  have e61 : gI h 99 61 = nI w := (hs 3 (by omega)).trans ew
  have e58 : gI h 99 58 = nI p := (hs 0 (by omega)).trans ep
  unfold M_whyMove
  refine m_ways' O E e61 (fun h1 f1 r1 z => ?_)
  have k1 := k h1 f1 r1 z
  have E1 : LSame a (rowM h1) := by rw [r1]; exact E
  have g99 : ∀ j, gI h1 99 j = gI h 99 j := fun j => congrFun r1 j
  have e1 : ∀ j, j < 58 → gI h1 99 j = a j := fun j hj => E1.c j hj
  refine ⟨fun q => ?_, fun q => ?_⟩
  · have q' : ¬ x.toInt = 16 := fun e => q (l_eq.mpr (e.trans x16.symm))
    unfold whyM at k1
    rw [if_neg q'] at k1
    by_cases hx : 0 ≤ x.toInt ∧ x.toInt < nR a
    · obtain ⟨r, er⟩ : ∃ r : Nat, x.toInt = r := ⟨x.toInt.toNat, by omega⟩
      have hr : r < nR a := by omega
      refine m_rdY (e1 2 (by omega)) O (by omega) (by omega) (brF' (by decide) ?_)
      rw [l_i' x er (by omega)]
      have e10 : (10 : Int32) + nI r = nI (10 + r) := nI_add 10 r
      rw [e10]
      refine ⟨pk_in (10 + r) 3276 (by omega), ?_⟩
      rw [pk_cl (10 + r), e1 _ (by omega), (O.2.2.1 r hr).1.1, g99 58, e58, nI_eq (by have := (O.2.2.1 r hr).1.2; omega) (by omega)]
      rw [if_pos hx, er] at k1
      have k1 : Q (if fromA a r = p then (if opnA a w r then 0 else 3) else 2) h1 := k1
      refine ⟨fun e => ?_, fun e => ?_⟩
      · refine s_isOpen (a := rowM h1) (w := w) (le_ok O E1) (by rw [le_nR E1]; exact hr) (fun j => rfl) ((g99 61).trans e61) (fun h2 f2 => ?_)
        have k2 := k h2 (f1.tr f2.toW) ((funext (fun j => f2.1 99 j rfl)).trans r1) (WaysM_k z (fun o j h1 h2 => f2.1 o j (by simp only [o2, Bool.or_eq_false_iff, beq_eq_false_iff_ne]; omega)))
        unfold whyM at k2
        rw [if_neg q', if_pos hx, er] at k2
        have k2 : Q (if fromA a r = p then (if opnA a w r then 0 else 3) else 2) h2 := k2
        rw [if_pos e] at k2
        rw [le_opn O E1 (by omega)]
        by_cases q : opnA a w r = true
        · rw [if_pos q] at k2 ⊢; exact brF (by decide) k2
        · rw [if_neg q] at k2 ⊢; exact brT rfl k2
      · rw [if_neg e] at k1; exact k1
    · rw [if_neg hx] at k1
      exact m_rdN (e1 2 (by omega)) O hx (brT' rfl k1)
  · rw [show x.toInt = 16 by rw [q]; exact x16] at k1
    unfold whyM at k1
    rw [if_pos rfl] at k1
    rw [g99 58, e58]
    have e16 : (16 : Int32) + nI p = nI (16 + p) := nI_add 16 p
    rw [e16]
    refine ⟨pk_in p 8 (by omega), ?_⟩
    rw [cl p, z.1 p (by omega), if_pos hp]
    have wl := wys_lt O (w := w) (p := p) (by omega)
    refine s_isIn (by omega) (by omega) ?_
    by_cases q2 : obs a w p = 0
    · rw [if_pos q2] at k1
      rw [if_pos ((wys_tb O).mpr (Or.inr ⟨q2, rfl⟩))]
      exact brF (by decide) k1
    · rw [if_neg q2] at k1
      have hn : ¬ (wys a w p).testBit (16 + p) = true := fun e => by
        rcases (wys_tb O).mp e with ⟨h1, _⟩ | ⟨h1, _⟩
        · omega
        · exact q2 h1
      rw [if_neg hn]
      exact brT rfl k1
def tokN (s : Row) : Nat := (s 0).toInt.toNat
def skyN (s : Row) : Nat := (s 3).toInt.toNat
def rOf (v : Int) : Int := if v % 1000 = 999 then -1 else v % 1000
def whyD (a s : Row) (v : Int) : Int32 := if 0 ≤ v ∧ v ≤ 16 then whyM a (skyN s) (tokN s) v else if 20 ≤ v ∧ v ≤ 30 then 0 else if 1000 ≤ v ∧ v ≤ 8999 then whyP a ((v - 1000) / 1000) (rOf v) else 1
def doD (a s : Row) (v : Int) : Row := if v ≤ 16 then goS a (skyN s) (wayX (tokN s) v) s else if v < 30 then stS s 3 (Int32.ofInt (v - 20)) else if v = 30 then stp a s else stS s (4 + ((v - 1000) / 1000).toNat) (Int32.ofInt (rOf v))
theorem ofI_n (n : Nat) : Int32.ofInt (n : Int) = nI n := rfl
theorem stS_ok {a s : Row} {B : Int} {p : Nat} {y : Int32} (h : StdOK a s B) (hy : plOK a y p) : StdOK a (stS s (4 + p) y) B := by
  refine ⟨?_, ?_, fun q hq => ?_, ?_⟩
  · rw [stS_n (by omega)]; exact h.1
  · rw [stS_n (by omega)]; exact h.2.1
  · by_cases e : q = p
    · subst e; rw [stS_s]; exact hy
    · rw [stS_n (by omega)]; exact h.2.2.1 q hq
  · rw [stS_n (by omega)]; exact h.2.2.2
theorem stS3_ok {a s : Row} {B : Int} {w : Nat} (h : StdOK a s B) (hw : w < 10) : StdOK a (stS s 3 (nI w)) B := by
  refine ⟨h.1, ⟨w, hw, rfl⟩, fun q hq => ?_, h.2.2.2⟩
  rw [stS_n (by omega)]; exact h.2.2.1 q hq
theorem whyP_ok {a : Row} {x y : Int} (h : whyP a x y = 0) : (0 ≤ x ∧ x < nP a) ∧ plOK a (Int32.ofInt y) x.toNat := by
  unfold whyP at h
  by_cases q : 0 ≤ x ∧ x < nP a
  · rw [if_pos q] at h
    refine ⟨q, ?_⟩
    by_cases q2 : y = -1
    · subst q2; exact Or.inl (by decide)
    · rw [if_neg q2] at h
      by_cases q3 : 0 ≤ y ∧ y < nR a
      · rw [if_pos q3] at h
        by_cases q4 : (fromA a y.toNat : Int) = x
        · refine Or.inr ⟨y.toNat, by omega, ?_, by omega⟩
          rw [← ofI_n]; congr 1; omega
        · rw [if_neg q4] at h; exact absurd h (by decide)
      · rw [if_neg q3] at h; exact absurd h (by decide)
  · rw [if_neg q] at h; exact absurd h (by decide)
theorem doD_ok {a s : Row} {B : Int} {v : Int} (O : LandOK a) (h : StdOK a s B) (hB : B + 99 < 2 ^ 31) (h0 : 0 ≤ B) (hy : whyD a s v = 0) : StdOK a (doD a s v) (B + 99) := by
  obtain ⟨p, hp, ep⟩ := h.1
  obtain ⟨w, hw, ew⟩ := h.2.1
  have h8 := O.1.2.1
  have et : tokN s = p := by unfold tokN; rw [ep, nI_toInt (by omega)]; rfl
  have es : skyN s = w := by unfold skyN; rw [ew, nI_toInt (by omega)]; rfl
  unfold whyD at hy
  unfold doD
  rw [et, es] at hy
  rw [et, es]
  by_cases q1 : 0 ≤ v ∧ v ≤ 16
  · rw [if_pos q1] at hy
    rw [if_pos q1.2]
    exact goS_ok O h hp (whyM_ok O hy).1 hB
  · rw [if_neg q1] at hy
    by_cases q2 : 20 ≤ v ∧ v ≤ 30
    · rw [if_neg (by omega)]
      by_cases q3 : v < 30
      · rw [if_pos q3]
        have : Int32.ofInt (v - 20) = nI (v - 20).toNat := by rw [← ofI_n]; congr 1; omega
        rw [this]
        exact StdOK_B (stS3_ok h (by omega)) (by omega)
      · rw [if_neg q3, if_pos (by omega)]
        exact stp_ok O h hB
    · rw [if_neg q2] at hy
      by_cases q4 : 1000 ≤ v ∧ v ≤ 8999
      · rw [if_pos q4] at hy
        rw [if_neg (by omega), if_neg (by omega), if_neg (by omega)]
        exact StdOK_B (stS_ok h (whyP_ok hy).2) (by omega)
      · rw [if_neg q4] at hy; exact absurd hy (by decide)
theorem c_setPlan {h : Hp} {Q : Hp → Prop} {s : Row} {o pl p : Nat} {y : Int32} (R : StdR h o pl s) (ho : o = 20 ∨ o = 22) (hpl : pl = o + 1) (hp : p < 8) (k : ∀ h1, Fp (oP o pl) h h1 → (∀ x j, 14 ≤ x → x ≤ 19 → gI h1 x j = gI h x j) → StdR h1 o pl (stS s (4 + p) y) → Q h1) : Stand_setPlan o (nI p) y h Q := by
  unfold Stand_setPlan
  refine brF (nI_pos (by omega)) (pk_le 8 p (fun q => absurd q (by omega)) (fun _ => ⟨pk_in p 8 (by omega), ?_⟩))
  rw [cl p, rfSo ho hpl]
  rintro _ rfl
  refine k _ (Fp.sI (Fp.rf _ h) (by simp [oP])) (fun x j h1 h2 => by rw [sI_o (by omega)]) ⟨?_, ?_, ?_, ?_, fun q hq => ?_⟩
  · rw [sI_o (by omega), stS_n (by omega)]; exact R.1
  · rw [stS_n (by omega)]; exact R.2.1
  · rw [sI_o (by omega), stS_n (by omega)]; exact R.2.2.1
  · rw [sI_o (by omega), stS_n (by omega)]; exact R.2.2.2.1
  · by_cases e : q = p
    · subst e; rw [sI_s, stS_s]
    · rw [sI_k e, stS_n (by omega)]; exact R.2.2.2.2 q hq
theorem i32_of {x : Int32} {z : Int} (h : x.toInt = z) : x = Int32.ofInt z := by rw [← h, Int32.ofInt_toInt]
theorem c_tryDeed {h : Hp} {Q : Int32 → Hp → Prop} {a s : Row} {B : Int} {o pl : Nat} {v : Int64} (L : Lnd h a) (O : LandOK a) (R : StdR h o pl s) (ho : o = 20 ∨ o = 22) (hpl : pl = o + 1) (sO : StdOK a s B) (hB : B + 99 < 2 ^ 31) (k : ∀ h1, Fp (oP o pl) h h1 → Lnd h1 a → StdR h1 o pl (if whyD a s v.toInt = 0 then doD a s v.toInt else s) → Q (whyD a s v.toInt) h1) : Stand_tryDeed o v h Q := by
  obtain ⟨p, hp, ep⟩ := sO.1
  obtain ⟨w, hw, ew⟩ := sO.2.1
  have h8 := O.1.2.1
  have et : tokN s = p := by unfold tokN; rw [ep, nI_toInt (by omega)]; rfl
  have es : skyN s = w := by unfold skyN; rw [ew, nI_toInt (by omega)]; rfl
  unfold whyD doD at k
  rw [et, es] at k
  have l0 : (0 : Int64).toInt = 0 := rfl
  have l16 : (16 : Int64).toInt = 16 := rfl
  have l20 : (20 : Int64).toInt = 20 := rfl
  have l30 : (30 : Int64).toInt = 30 := rfl
  have l1000 : (1000 : Int64).toInt = 1000 := rfl
  have l8999 : (8999 : Int64).toInt = 8999 := rfl
  unfold Stand_tryDeed
  rintro J38 rfl
  by_cases q1 : 0 ≤ v.toInt ∧ v.toInt ≤ 16
  · simp only [if_pos q1, if_pos q1.2] at k
    refine brF (by rw [l_lt]; omega) (brF (by rw [l_lt]; omega) ?_)
    have ev : v.toInt32.toInt = v.toInt := l_i (by omega)
    refine c_whyMove L O R hp ep hw ew ?_
    rw [ev]
    refine ⟨fun q => ?_, fun q => ?_⟩
    · have := k h (Fp.rf _ h) L (by rw [if_neg q]; exact R)
      exact this
    · obtain ⟨we, _, etw⟩ := whyM_ok O q
      have ex : v.toInt32 = nI (tw (wayX p v.toInt)) := by rw [etw, nI_i v.toInt32 (by omega), ev]
      rw [ex]
      exact c_goAlong L O R ho hpl sO hB ep hw ew we (fun h1 f1 L1 R1 => k h1 f1 L1 (by rw [if_pos q]; exact R1))
  · have j38 : ∀ P1 P2 : Prop, P1 → (v < (0 : Int64) → P1) ∧ (¬ v < (0 : Int64) → ((16 : Int64) < v → P1) ∧ (¬ (16 : Int64) < v → P2)) := by
      intro P1 P2 p1
      refine ⟨fun _ => p1, fun q => ⟨fun _ => p1, fun q2 => ?_⟩⟩
      rw [l_lt] at q q2
      exact absurd ⟨by omega, by omega⟩ q1
    apply j38
    simp only [if_neg q1] at k
    rintro J65 rfl
    by_cases q2 : 20 ≤ v.toInt ∧ v.toInt < 30
    · refine brF (by rw [l_lt]; omega) (brF (by rw [l_le]; omega) ?_)
      rintro _ rfl
      have k1 := k (sI h o 3 (v.toInt32 - 20)) (Fp.sI (Fp.rf _ h) (by simp [oP])) (Lnd_k L (fun x j h1 h2 => by rw [sI_o (by omega)]))
      rw [if_pos (show 20 ≤ v.toInt ∧ v.toInt ≤ 30 by omega), if_pos rfl, if_neg (show ¬ v.toInt ≤ 16 by omega), if_pos q2.2] at k1
      refine k1 ?_
      have e3 : v.toInt32 - 20 = Int32.ofInt (v.toInt - 20) := by
        refine i32_of ?_
        have ev : v.toInt32.toInt = v.toInt := l_i (by omega)
        have l : (20 : Int32).toInt = 20 := by decide
        rw [i_sub (by omega), ev, l]
      refine ⟨?_, ?_, ?_, ?_, fun q hq => ?_⟩
      · rw [sI_k (by decide), stS_n (by decide)]; exact R.1
      · rw [stS_n (by decide)]; exact R.2.1
      · rw [sI_k (by decide), stS_n (by decide)]; exact R.2.2.1
      · rw [sI_s, stS_s]; exact e3
      · rw [sI_o (by omega), stS_n (by omega)]; exact R.2.2.2.2 q hq
    · have j65 : ∀ P1 P2 : Prop, P1 → (v < (20 : Int64) → P1) ∧ (¬ v < (20 : Int64) → ((30 : Int64) ≤ v → P1) ∧ (¬ (30 : Int64) ≤ v → P2)) := by
        intro P1 P2 p1
        refine ⟨fun _ => p1, fun q => ⟨fun _ => p1, fun q3 => ?_⟩⟩
        rw [l_lt] at q
        rw [l_le] at q3
        exact absurd ⟨by omega, by omega⟩ q2
      apply j65
      by_cases q3 : v.toInt = 30
      · refine brT' (l_eq.mpr (q3.trans l30.symm)) ?_
        refine c_goByPlan L O R ho hpl sO hB (fun h1 f1 L1 R1 => ?_)
        have k1 := k h1 f1 L1
        rw [if_pos (show 20 ≤ v.toInt ∧ v.toInt ≤ 30 by omega), if_pos rfl, if_neg (show ¬ v.toInt ≤ 16 by omega), if_neg (show ¬ v.toInt < 30 by omega), if_pos q3] at k1
        exact k1 R1
      · refine brF' (fun e => q3 ((congrArg Int64.toInt e).trans l30)) ?_
        rw [if_neg (show ¬ (20 ≤ v.toInt ∧ v.toInt ≤ 30) by omega)] at k
        by_cases q4 : 1000 ≤ v.toInt ∧ v.toInt ≤ 8999
        · refine brF (by rw [l_lt]; omega) (brF (by rw [l_lt]; omega) ?_)
          rw [if_pos q4, if_neg (show ¬ v.toInt ≤ 16 by omega), if_neg (show ¬ v.toInt < 30 by omega), if_neg q3] at k
          obtain ⟨n, hn⟩ : ∃ n : Nat, v.toInt = 1000 + n := ⟨(v.toInt - 1000).toNat, by omega⟩
          have en : v.toInt32 - 1000 = nI n := by
            apply Int32.toInt_inj.mp
            have ev : v.toInt32.toInt = v.toInt := l_i (by omega)
            have l : (1000 : Int32).toInt = 1000 := by decide
            rw [i_sub (by omega), ev, l, nI_toInt (by omega)]; omega
          rw [en]
          unfold Stand_tryPlan
          have ed : nI n / 1000 = nI (n / 1000) := pk_div (by omega) (by decide) (by decide)
          have er : nI n - nI n / 1000 * 1000 = nI (n % 1000) := pk_rem (by omega) (by decide) (by decide)
          rw [er, ed]
          intro v1 hv1
          rw [hv1]
          clear hv1 v1
          rintro J26 rfl
          have eP : (v.toInt - 1000) / 1000 = ((n / 1000 : Nat) : Int) := by rw [hn]; omega
          have eR : v.toInt % 1000 = ((n % 1000 : Nat) : Int) := by rw [hn]; omega
          have go : ∀ y : Int32, y.toInt = rOf v.toInt → Stand_whyNotPlan o (nI (n / 1000)) y h (fun r4 h5 => (¬ r4 = 0 → Q r4 h5) ∧ (r4 = 0 → Stand_setPlan o (nI (n / 1000)) y h5 (fun h6 => Q r4 h6))) := by
            intro y hy
            refine c_whyPlan L O ?_
            rw [nI_toInt (by omega), hy]
            rw [eP] at k
            refine ⟨fun q => ?_, fun q => ?_⟩
            · exact k h (Fp.rf _ h) L (by rw [if_neg q]; exact R)
            · have hpp := (whyP_ok q).1
              refine c_setPlan R ho hpl (by omega) (fun h1 f1 l1 R1 => k h1 f1 (Lnd_k L l1) ?_)
              rw [if_pos q]
              rw [i32_of hy] at R1
              exact R1
          have e999 : nI (n % 1000) = 999 ↔ n % 1000 = 999 := nI_eq (a := n % 1000) (b := 999) (by omega) (by omega)
          rw [e999]
          refine ⟨fun q => go _ ?_, fun q => go _ ?_⟩
          · unfold rOf; rw [eR, if_neg (by omega), nI_toInt (by omega)]
          · unfold rOf; rw [eR, if_pos (by omega)]; decide
        · rw [if_neg q4, if_neg (show ¬ (1 : Int32) = 0 by decide)] at k
          have k1 := k h (Fp.rf _ h) L R
          refine ⟨fun _ => k1, fun q => ⟨fun _ => k1, fun q2 => ?_⟩⟩
          rw [l_lt] at q q2
          exact absurd ⟨by omega, by omega⟩ q4
theorem lrem {v : Int64} {n d : Nat} (hn : v.toInt = n) (h63 : n < 2 ^ 63) (h0 : 0 < d) (hd : d < 2 ^ 63) : v = lN n ∧ v / lN d = lN (n / d) ∧ v - v / lN d * lN d = lN (n % d) := by
  have e : v = lN n := Int64.toInt_inj.mp (by rw [pk_lT h63]; exact hn)
  subst e
  exact ⟨rfl, pk_lDiv h63 h0 hd, pk_lRem h63 h0 hd⟩
theorem m_whyNotF {h : Hp} {Q : Int32 → Hp → Prop} {a s : Row} {B : Int} {v : Int64} (O : LandOK a) (E : LSame a (rowM h)) (hs : ∀ k, k < 12 → gI h 99 (58 + k) = s k) (sO : StdOK a s B) (k : ∀ h1, Fr oW h h1 → rowM h1 = rowM h → Q (whyD a s v.toInt) h1) : M_whyNot v h Q := by
  obtain ⟨p, hp, ep⟩ := sO.1
  obtain ⟨w, hw, ew⟩ := sO.2.1
  have h8 := O.1.2.1
  have et : tokN s = p := by unfold tokN; rw [ep, nI_toInt (by omega)]; rfl
  have es : skyN s = w := by unfold skyN; rw [ew, nI_toInt (by omega)]; rfl
  unfold whyD at k
  rw [et, es] at k
  have l0 : (0 : Int64).toInt = 0 := rfl
  have l16 : (16 : Int64).toInt = 16 := rfl
  have l20 : (20 : Int64).toInt = 20 := rfl
  have l30 : (30 : Int64).toInt = 30 := rfl
  have l1000 : (1000 : Int64).toInt = 1000 := rfl
  have l8999 : (8999 : Int64).toInt = 8999 := rfl
  unfold M_whyNot
  by_cases q1 : 0 ≤ v.toInt ∧ v.toInt ≤ 16
  · rw [if_pos q1] at k
    refine m_inY (by omega) (by omega) (brF (by decide) ?_)
    exact m_whyMoveF O E hs hp ep hw ew (fun h1 f1 r1 _ => k h1 f1 r1)
  · rw [if_neg q1] at k
    refine m_inN (by omega) (brT rfl ?_)
    by_cases q2 : 20 ≤ v.toInt ∧ v.toInt ≤ 30
    · rw [if_pos q2] at k
      exact m_inY (by omega) (by omega) (brF (by decide) (k h (Fr.rf _ h) rfl))
    · rw [if_neg q2] at k
      refine m_inN (by omega) (brT rfl ?_)
      by_cases q4 : 1000 ≤ v.toInt ∧ v.toInt ≤ 8999
      · rw [if_pos q4] at k
        refine m_inY (by omega) (by omega) (brF' (by decide) ?_)
        obtain ⟨n, hn⟩ : ∃ n : Nat, v.toInt = n := ⟨v.toInt.toNat, by omega⟩
        have d1 := lrem hn (by omega) (show 0 < 1000 by decide) (by decide)
        have e2 : v - 1000 = lN (n - 1000) := by rw [d1.1]; exact lN_sub (a := n) (b := 1000) (by omega)
        have d2 : lN (n - 1000) / lN 1000 = lN ((n - 1000) / 1000) := pk_lDiv (by omega) (by decide) (by decide)
        rintro J rfl
        have eR : v.toInt % 1000 = ((n % 1000 : Nat) : Int) := by omega
        have k1 := k h (Fr.rf _ h) rfl
        have go : ∀ y : Int64, y.toInt = rOf v.toInt → M_whyPlan ((v - 1000) / 1000) y h (fun r9 h10 => Q r9 h10) := by
          intro y hy
          refine m_whyPlan O E ?_
          rw [e2]
          rw [show (1000 : Int64) = lN 1000 from rfl, d2, pk_lT (by omega), hy]
          rw [show (((n - 1000) / 1000 : Nat) : Int) = (v.toInt - 1000) / 1000 by omega]
          exact k1
        have er : v - v / 1000 * 1000 = lN (n % 1000) := d1.2.2
        rw [er]
        have e999 : lN (n % 1000) = 999 ↔ n % 1000 = 999 := pk_lEQ (a := n % 1000) (b := 999) (by omega) (by omega)
        rw [e999]
        refine ⟨fun q => go _ ?_, fun q => go _ ?_⟩
        · unfold rOf; rw [eR, if_neg (by omega), pk_lT (by omega)]
        · unfold rOf; rw [eR, if_pos (by omega)]; decide
      · rw [if_neg q4] at k
        exact m_inN (by omega) (brT' rfl (k h (Fr.rf _ h) rfl))
theorem m_does {h : Hp} {Q : Hp → Prop} {a s : Row} {B : Int} {v : Int32} (O : LandOK a) (E : LSame a (rowM h)) (hs : ∀ k, k < 12 → gI h 99 (58 + k) = s k) (sO : StdOK a s B) (hy : whyD a s v.toInt = 0) (k : ∀ h1, Fp (fun o j => oW o || (o == 99 && (decide (58 ≤ j) && decide (j < 70)))) h h1 → (∀ k, k < 12 → gI h1 99 (58 + k) = doD a s v.toInt k) → Q h1) : M_does v h Q := by
  obtain ⟨p, hp, ep⟩ := sO.1
  obtain ⟨w, hw, ew⟩ := sO.2.1
  have h8 := O.1.2.1
  have et : tokN s = p := by unfold tokN; rw [ep, nI_toInt (by omega)]; rfl
  have es : skyN s = w := by unfold skyN; rw [ew, nI_toInt (by omega)]; rfl
  unfold whyD at hy
  unfold doD at k
  rw [et, es] at hy k
  have l16 : (16 : Int32).toInt = 16 := by decide
  have l30 : (30 : Int32).toInt = 30 := by decide
  unfold M_does
  refine m_ways' O E ((hs 3 (by omega)).trans ew) (fun h1 f1 r1 z => ?_)
  have f1' : Fp (fun o j => oW o || (o == 99 && (decide (58 ≤ j) && decide (j < 70)))) h h1 := f1.fp (fun o j q => by simp only [Bool.or_eq_false_iff] at q; exact q.1)
  have fG : ∀ {h2 : Hp}, Fp oG h1 h2 → Fp (fun o j => oW o || (o == 99 && (decide (58 ≤ j) && decide (j < 70)))) h h2 := fun f => f1'.tr (f.mo (fun o j q => by
    simp only [Bool.or_eq_false_iff, Bool.and_eq_false_iff, decide_eq_false_iff_not] at q
    simp only [oG, Bool.and_eq_false_iff, decide_eq_false_iff_not]
    rcases q.2 with q | q
    · exact Or.inl q
    · right; omega))
  have s1 : ∀ j, j < 12 → gI h1 99 (58 + j) = s j := fun j hj => (congrFun r1 _).trans (hs j hj)
  by_cases q1 : 0 ≤ v.toInt ∧ v.toInt ≤ 16
  · rw [if_pos q1] at hy
    rw [if_pos q1.2] at k
    obtain ⟨we, _, etw⟩ := whyM_ok O hy
    have e24 := way24 O (by omega) we
    refine brF (by rw [i_lt]; omega) ?_
    have tell : ∀ R : Int32 → Hp → Prop, R (nI (wayX p v.toInt)) h1 → M_wayToldBy v h1 R := by
      intro R r
      unfold M_wayToldBy
      rw [show gI h1 99 58 = nI p from (s1 0 (by omega)).trans ep]
      unfold wayX at r
      by_cases q : v.toInt = 16
      · rw [if_pos q] at r
        refine brT (by rw [i_le]; omega) ?_
        have e16 : (16 : Int32) + nI p = nI (16 + p) := nI_add 16 p
        rw [e16]; exact r
      · rw [if_neg q] at r
        refine brF (by rw [i_le]; omega) ?_
        rw [nI_i v q1.1]; exact r
    exact tell _ (m_goes z hp e24 we s1 (fun h2 f2 s2 => k h2 (fG f2) s2))
  · rw [if_neg q1] at hy
    by_cases q2 : 20 ≤ v.toInt ∧ v.toInt ≤ 30
    · refine brT (by rw [i_lt]; omega) ?_
      rw [if_neg (show ¬ v.toInt ≤ 16 by omega)] at k
      by_cases q3 : v.toInt < 30
      · refine brF (by rw [i_le]; omega) ?_
        rintro _ rfl
        rw [if_pos q3] at k
        refine k _ (Fp.sI f1' (by simp)) (fun j hj => ?_)
        by_cases e : j = 3
        · subst e
          rw [show 58 + 3 = 61 from rfl, sI_s, stS_s]
          refine i32_of ?_
          have l : (20 : Int32).toInt = 20 := by decide
          rw [i_sub (by omega), l]
        · rw [sI_k (by omega), stS_n e]; exact s1 j hj
      · refine brT (by rw [i_le]; omega) (brT' (i_eq.mpr (by omega)) ?_)
        rw [if_neg q3, if_pos (by omega)] at k
        exact m_goPlan O z sO ew hw s1 (fun h2 f2 s2 => k h2 (fG f2) s2)
    · rw [if_neg q2] at hy
      by_cases q4 : 1000 ≤ v.toInt ∧ v.toInt ≤ 8999
      · rw [if_pos q4] at hy
        rw [if_neg (show ¬ v.toInt ≤ 16 by omega), if_neg (show ¬ v.toInt < 30 by omega), if_neg (show ¬ v.toInt = 30 by omega)] at k
        refine brT (by rw [i_lt]; omega) (brT (by rw [i_le]; omega) (brF' (fun e => by rw [e, l30] at q4; omega) ?_))
        obtain ⟨n, hn⟩ : ∃ n : Nat, v.toInt = n := ⟨v.toInt.toNat, by omega⟩
        have ev : v = nI n := by rw [nI_i v (by omega), hn]; rfl
        have e1 : (v - 1000) / 1000 = nI ((n - 1000) / 1000) := by
          rw [ev]
          show (nI n - nI 1000) / nI 1000 = _
          rw [pk_sub (by omega), pk_div (by omega) (by decide) (by decide)]
        have e2 : v - v / 1000 * 1000 = nI (n % 1000) := by rw [ev]; exact pk_rem (by omega) (by decide) (by decide)
        rw [e1, e2]
        rintro J rfl
        have e62 : (62 : Int32) + nI ((n - 1000) / 1000) = nI (62 + (n - 1000) / 1000) := nI_add 62 _
        have go : ∀ y : Int32, y.toInt = rOf v.toInt → vp_in ((62 : Int32) + nI ((n - 1000) / 1000)) 3276 ∧ ∀ h4 : Hp, h4 = sI h1 99 (((62 : Int32) + nI ((n - 1000) / 1000))).toNatClampNeg y → Q h4 := by
          intro y hy'
          rw [e62]
          refine ⟨pk_in (62 + (n - 1000) / 1000) 3276 (by omega), ?_⟩
          rw [cl (62 + (n - 1000) / 1000)]
          rintro _ rfl
          refine k _ (Fp.sI f1' (by simp; omega)) (fun j hj => ?_)
          rw [show ((v.toInt - 1000) / 1000).toNat = (n - 1000) / 1000 by omega]
          by_cases e : j = 4 + (n - 1000) / 1000
          · subst e
            rw [show 58 + (4 + (n - 1000) / 1000) = 62 + (n - 1000) / 1000 by omega, sI_s, stS_s]
            exact i32_of hy'
          · rw [sI_k (by omega), stS_n e]; exact s1 j hj
        have e999 : nI (n % 1000) = 999 ↔ n % 1000 = 999 := nI_eq (a := n % 1000) (b := 999) (by omega) (by omega)
        rw [e999]
        refine ⟨fun q => go _ ?_, fun q => go _ ?_⟩
        · unfold rOf; rw [if_neg (by omega), nI_toInt (by omega)]; omega
        · unfold rOf; rw [if_pos (by omega)]; decide
      · rw [if_neg q4] at hy; exact absurd hy (by decide)
