/-! journey -/
def ndx (x : Int32) : Int32 := 1103515245 * x + 12345
def u16 (x : Int32) : Nat := x.toBitVec.toNat / 65536
def jvx (x : Int32) : Int32 := if u16 (ndx x) % 6 < 3 ∨ u16 (ndx x) % 6 = 5 then ndx (ndx x) else ndx x
def jvv (x : Int32) : Nat := if u16 (ndx x) % 6 < 3 then u16 (ndx (ndx x)) % 17 else if u16 (ndx x) % 6 = 5 then 20 + u16 (ndx (ndx x)) % 10 else 30
def jrn (a : Row) : Nat → Int32 → Nat → Row → Nat × Row
  | 0, _, c, s => (c, s)
  | k + 1, x, c, s => if whyD a s (jvv x) = 0 then jrn a k (jvx x) (c + 1) (doD a s (jvv x)) else jrn a k (jvx x) c s
theorem jrn_ok {a : Row} (O : LandOK a) : ∀ {k : Nat} {x : Int32} {c : Nat} {s : Row} {B : Int}, 0 ≤ B → StdOK a s B → B + 99 * k < 2 ^ 31 → StdOK a (jrn a k x c s).2 (B + 99 * k) ∧ c ≤ (jrn a k x c s).1 ∧ (jrn a k x c s).1 ≤ c + k ∧ ((jrn a k x c s).1 = c → (jrn a k x c s).2 = s)
  | 0, x, c, s, B, h0, h, hB => ⟨by show StdOK a s (B + 99 * ((0 : Nat) : Int)); rw [show B + 99 * ((0 : Nat) : Int) = B by omega]; exact h, Nat.le_refl _, Nat.le_refl _, fun _ => rfl⟩
  | k + 1, x, c, s, B, h0, h, hB => by
    unfold jrn
    by_cases q : whyD a s (jvv x) = 0
    · rw [if_pos q, show B + 99 * ((k + 1 : Nat) : Int) = (B + 99) + 99 * (k : Int) by omega]
      obtain ⟨a1, a2, a3, a4⟩ := jrn_ok (k := k) (x := jvx x) (c := c + 1) O (by omega) (doD_ok O h (by omega) h0 q) (show (B + 99) + 99 * (k : Int) < 2 ^ 31 by omega)
      exact ⟨a1, by omega, by omega, fun e => absurd e (by omega)⟩
    · rw [if_neg q]
      obtain ⟨a1, a2, a3, a4⟩ := jrn_ok (k := k) (x := jvx x) (c := c) O h0 h (show B + 99 * (k : Int) < 2 ^ 31 by omega)
      exact ⟨StdOK_B a1 (by omega), a2, by omega, a4⟩
theorem u16_lt (x : Int32) : u16 x < 65536 := by
  have := x.toBitVec.isLt
  unfold u16; omega
theorem ush16 (x : Int32) : (x.toUInt32 >>> (Nat.toUInt32 16 &&& Int32.toUInt32 31)).toInt32 = nI (u16 x) := by
  have e : x = nI x.toBitVec.toNat := by
    apply Int32.toBitVec_inj.1
    show x.toBitVec = BitVec.ofNat 32 x.toBitVec.toNat
    simp
  have := ushr16 (n := x.toBitVec.toNat) x.toBitVec.isLt
  rw [← e] at this
  exact this
theorem urem {x : Int32} {d : Nat} (h0 : 0 < d) (hd : d < 2 ^ 31) : nI (u16 x) - nI (u16 x) / nI d * nI d = nI (u16 x % d) := pk_rem (by have := u16_lt x; omega) h0 hd
theorem c_journey {h0 : Hp} {K : Int32 → Hp → Prop} {a : Row} {n : Nat} (O : LandOK a) (hn : n ≤ 40) :
    ∀ (k i : Nat) (x : Int32) (c : Nat) (s : Row) (B : Int) (h : Hp), i + k = n → 0 ≤ B → B + 99 * k < 2 ^ 31 → Fp (oP 20 21) h0 h → Lnd h a → StdR h 20 21 s → StdOK a s B → (∀ h1, Fp (oP 20 21) h0 h1 → StdR h1 20 21 (jrn a k x c s).2 → K (nI (jrn a k x c s).1) h1) → C_journey_L33 (nI n) K (k + 1) x (nI c) (nI i) h := by
  intro k
  induction k with
  | zero =>
    intro i x c s B h hi hB0 hB F L R sO hQ
    unfold C_journey_L33
    exact pk_le n i (fun _ => hQ h F R) (fun q => absurd q (by omega))
  | succ k ih =>
    intro i x c s B h hi hB0 hB F L R sO hQ
    unfold C_journey_L33
    refine pk_le n i (fun q => absurd q (by omega)) (fun _ => ?_)
    unfold C_nextDraw
    dsimp only
    rw [show 1103515245 * x + 12345 = ndx x from rfl]
    rw [ush16, show (6 : Int32) = nI 6 from rfl, urem (by decide) (by decide)]
    intro v4 hv4
    rw [hv4]
    clear hv4 v4
    rintro J rfl
    have hm6 : u16 (ndx x) % 6 < 6 := Nat.mod_lt _ (by decide)
    have go : Stand_tryDeed 20 ((nI (jvv x)).toInt64) h (fun r8 h9 => ∀ J123 : Int32 → Hp → Prop, J123 = (fun x4_10 h11 => ∀ v12 : Int32, v12 = (nI i + 1) → C_journey_L33 (nI n) K (k + 1) (jvx x) x4_10 v12 h11) → (¬ r8 = 0 → J123 (nI c) h9) ∧ (r8 = 0 → ∀ v13 : Int32, v13 = (nI c + 1) → J123 v13 h9)) := by
      have hv : jvv x < 100 := by
        unfold jvv
        have h17 := Nat.mod_lt (u16 (ndx (ndx x))) (show 0 < 17 by decide)
        have h10 := Nat.mod_lt (u16 (ndx (ndx x))) (show 0 < 10 by decide)
        split
        · omega
        · split <;> omega
      have ev : (nI (jvv x)).toInt64.toInt = ((jvv x : Nat) : Int) := by rw [i_l, nI_toInt (by omega)]
      refine c_tryDeed L O R (Or.inl rfl) rfl sO (by omega) (fun h1 f1 L1 R1 => ?_)
      rw [ev] at R1 ⊢
      rintro J rfl
      refine ⟨fun q => ?_, fun q => ?_⟩
      · rintro _ rfl
        rw [nI_1]
        rw [if_neg q] at R1
        refine ih (i + 1) _ c s B h1 (by omega) hB0 (by omega) (F.tr f1) L1 R1 sO (fun h2 F2 R2 => ?_)
        have := hQ h2 F2
        unfold jrn at this
        rw [if_neg q] at this
        exact this R2
      · rintro _ rfl _ rfl
        rw [nI_1, nI_1]
        rw [if_pos q] at R1
        refine ih (i + 1) _ (c + 1) _ (B + 99) h1 (by omega) (by omega) (by omega) (F.tr f1) L1 R1 (doD_ok O sO (by omega) hB0 q) (fun h2 F2 R2 => ?_)
        have := hQ h2 F2
        unfold jrn at this
        rw [if_pos q] at this
        exact this R2
    refine pk_le 3 (u16 (ndx x) % 6) (fun q => ?_) (fun q => ?_) (hb := by omega)
    · have e5 : nI (u16 (ndx x) % 6) = 5 ↔ u16 (ndx x) % 6 = 5 := nI_eq (a := u16 (ndx x) % 6) (b := 5) (by omega) (by omega)
      rw [e5]
      refine ⟨fun q5 => ?_, fun q5 => ?_⟩
      · have e1 : jvx x = ndx x := by unfold jvx; rw [if_neg (by omega)]
        have e2 : jvv x = 30 := by unfold jvv; rw [if_neg (by omega), if_neg q5]
        rw [e1, e2] at go; exact go
      · have e1 : jvx x = ndx (ndx x) := by unfold jvx; rw [if_pos (by omega)]
        have e2 : jvv x = 20 + u16 (ndx (ndx x)) % 10 := by unfold jvv; rw [if_neg (by omega), if_pos q5]
        rw [e1, e2] at go
        rw [show 1103515245 * ndx x + 12345 = ndx (ndx x) from rfl, ush16, show (10 : Int32) = nI 10 from rfl, urem (by decide) (by decide), show (20 : Int32) + nI (u16 (ndx (ndx x)) % 10) = nI (20 + u16 (ndx (ndx x)) % 10) from nI_add 20 _]
        intro v16 hv16
        rw [hv16]
        exact go
    · have e1 : jvx x = ndx (ndx x) := by unfold jvx; rw [if_pos (by omega)]
      have e2 : jvv x = u16 (ndx (ndx x)) % 17 := by unfold jvv; rw [if_pos q]
      rw [e1, e2] at go
      rw [show 1103515245 * ndx x + 12345 = ndx (ndx x) from rfl, ush16, show (17 : Int32) = nI 17 from rfl, urem (by decide) (by decide)]
      intro v16 hv16
      rw [hv16]
      exact go
def oJ : Nat → Nat → Bool := fun o j => oW o || (o == 99 && (decide (58 ≤ j) && decide (j < 70))) || (o == 98 && j == 23)
theorem oJ_B (o k : Nat) (h : oB o k = false) : oJ o k = false := by
  simp only [oB, Bool.or_eq_false_iff] at h
  have h1 := scM_W o k h.1
  have h3 : (o == 98 && k == 23) = false := by
    have h4 := h.1
    simp only [scM, Bool.or_eq_false_iff] at h4
    by_cases q : k = 23
    · subst q
      have h5 := h4.1
      simp at h5
      simp [h5]
    · simp [q]
  simp only [oJ, h1, h.2, h3, Bool.or_false]
theorem m_drawn {h : Hp} {Q : Int32 → Hp → Prop} {x : Int32} (hx : gI h 98 23 = x) (k : ∀ h1, Fp (fun o j => o == 98 && j == 23) h h1 → gI h1 98 23 = jvx x → Q (nI (jvv x)) h1) : M_drawn h Q := by
  unfold M_drawn M_draw
  rintro h1 rfl
  refine ⟨by decide, ?_⟩
  rw [sI_s, hx, show 1103515245 * x + 12345 = ndx x from rfl, ush16, show (6 : Int32) = nI 6 from rfl, urem (by decide) (by decide)]
  have hm6 : u16 (ndx x) % 6 < 6 := Nat.mod_lt _ (by decide)
  refine pk_le 3 (u16 (ndx x) % 6) (fun q => pk_le 5 (u16 (ndx x) % 6) (fun q5 => ?_) (fun q5 => ?_) (hb := by omega)) (fun q => ?_) (hb := by omega)
  · rintro _ rfl
    refine ⟨by decide, ?_⟩
    rw [sI_s, sI_s, show 1103515245 * ndx x + 12345 = ndx (ndx x) from rfl, ush16, show (10 : Int32) = nI 10 from rfl, urem (by decide) (by decide)]
    dsimp only
    rw [show (20 : Int32) + nI (u16 (ndx (ndx x)) % 10) = nI (20 + u16 (ndx (ndx x)) % 10) from nI_add 20 _]
    have e1 : jvx x = ndx (ndx x) := by unfold jvx; rw [if_pos (by omega)]
    have e2 : jvv x = 20 + u16 (ndx (ndx x)) % 10 := by unfold jvv; rw [if_neg (by omega), if_pos (by omega)]
    rw [← e2]
    exact k _ (Fp.sI (Fp.sI (Fp.rf _ h) rfl) rfl) (by rw [sI_s, e1])
  · have e1 : jvx x = ndx x := by unfold jvx; rw [if_neg (by omega)]
    have e2 : jvv x = 30 := by unfold jvv; rw [if_neg (by omega), if_neg (by omega)]
    have := k _ (Fp.sI (Fp.rf _ h) rfl) (by rw [sI_s, e1])
    rw [e2] at this; exact this
  · rintro _ rfl
    refine ⟨by decide, ?_⟩
    rw [sI_s, sI_s, show 1103515245 * ndx x + 12345 = ndx (ndx x) from rfl, ush16, show (17 : Int32) = nI 17 from rfl, urem (by decide) (by decide)]
    have e1 : jvx x = ndx (ndx x) := by unfold jvx; rw [if_pos (by omega)]
    have e2 : jvv x = u16 (ndx (ndx x)) % 17 := by unfold jvv; rw [if_pos q]
    rw [← e2]
    exact k _ (Fp.sI (Fp.sI (Fp.rf _ h) rfl) rfl) (by rw [sI_s, e1])
theorem m_journey {h0 : Hp} {K : Int32 → Hp → Prop} {a : Row} {n : Nat} (O : LandOK a) (hn : n ≤ 40) (E0 : LSame a (rowM h0)) :
    ∀ (k i : Nat) (x : Int32) (c : Nat) (s : Row) (B : Int) (h : Hp), i + k = n → 0 ≤ B → B + 99 * k < 2 ^ 31 → Fp oJ h0 h → gI h 98 23 = x → (∀ j, j < 12 → gI h 99 (58 + j) = s j) → StdOK a s B → (∀ h1, Fp oJ h0 h1 → (∀ j, j < 12 → gI h1 99 (58 + j) = (jrn a k x c s).2 j) → K (nI (jrn a k x c s).1) h1) → M_journey_L34 (nI n) K (k + 1) (nI c) (nI i) h := by
  have LS : ∀ {h : Hp}, Fp oJ h0 h → LSame a (rowM h) := fun F j hj hn => by
    refine Eq.trans ?_ (E0 j hj hn)
    have hb : (decide (58 ≤ j) && decide (j < 70)) = false := by simp; omega
    exact F.1 99 j (by simp only [oJ, hb, Bool.and_false, Bool.or_false]; rfl)
  intro k
  induction k with
  | zero =>
    intro i x c s B h hi hB0 hB F hx hs sO hQ
    unfold M_journey_L34
    exact pk_le n i (fun _ => hQ h F hs) (fun q => absurd q (by omega))
  | succ k ih =>
    intro i x c s B h hi hB0 hB F hx hs sO hQ
    unfold M_journey_L34
    refine pk_le n i (fun q => absurd q (by omega)) (fun _ => ?_)
    refine m_drawn hx (fun h1 f1 x1 => ?_)
    have F1 : Fp oJ h0 h1 := F.tr (f1.mo (fun o j q => by simp only [oJ, Bool.or_eq_false_iff] at q; exact q.2))
    have s1 : ∀ j, j < 12 → gI h1 99 (58 + j) = s j := fun j hj => (f1.1 99 _ rfl).trans (hs j hj)
    have hv : jvv x < 100 := by
      unfold jvv
      have h17 := Nat.mod_lt (u16 (ndx (ndx x))) (show 0 < 17 by decide)
      have h10 := Nat.mod_lt (u16 (ndx (ndx x))) (show 0 < 10 by decide)
      split
      · omega
      · split <;> omega
    have ev : (nI (jvv x)).toInt64.toInt = ((jvv x : Nat) : Int) := by rw [i_l, nI_toInt (by omega)]
    have ev2 : (nI (jvv x)).toInt = ((jvv x : Nat) : Int) := nI_toInt (by omega)
    refine m_whyNotF O (LS F1) s1 sO (fun h2 f2 r2 => ?_)
    rw [ev]
    rintro J rfl
    have F2 : Fp oJ h0 h2 := F1.tr (f2.fp (fun o j q => by simp only [oJ, Bool.or_eq_false_iff] at q; exact q.1.1))
    have s2 : ∀ j, j < 12 → gI h2 99 (58 + j) = s j := fun j hj => (congrFun r2 _).trans (s1 j hj)
    have x2 : gI h2 98 23 = jvx x := (f2.1 98 23 rfl).trans x1
    refine ⟨fun q => ?_, fun q => ?_⟩
    · refine m_does O (LS F2) s2 sO (by rw [ev2]; exact q) (fun h3 f3 s3 => ?_)
      rw [ev2] at s3
      rintro _ rfl _ rfl
      rw [nI_1, nI_1]
      have F3 : Fp oJ h0 h3 := F2.tr (f3.mo (fun o j q => by simp only [oJ, Bool.or_eq_false_iff] at q; simp only [Bool.or_eq_false_iff]; exact q.1))
      refine ih (i + 1) (jvx x) (c + 1) _ (B + 99) h3 (by omega) (by omega) (by omega) F3 ((f3.1 98 23 rfl).trans x2) s3 (doD_ok O sO (by omega) hB0 q) (fun h4 F4 g => ?_)
      have := hQ h4 F4
      unfold jrn at this
      rw [if_pos q] at this
      exact this g
    · rintro _ rfl
      rw [nI_1]
      refine ih (i + 1) (jvx x) c s B h2 (by omega) hB0 (by omega) F2 x2 s2 sO (fun h4 F4 g => ?_)
      have := hQ h4 F4
      unfold jrn at this
      rw [if_neg q] at this
      exact this g
theorem sim_journey {B : Int} {x y : Int32} (h0 : 0 ≤ B) (hB : B + 10000 < 2 ^ 31) : Sim B (B + 3960) (C_journey x y) (M_journey x y) := by
  intro h K I k
  obtain ⟨O, L⟩ := I.1
  obtain ⟨sO, sR⟩ : iStd B h := I.2.1
  obtain ⟨pm, nx, pC, pM, pO⟩ := iPast_to I.2.2.1
  by_cases hy : 1 ≤ y.toInt ∧ y.toInt ≤ 40
  · obtain ⟨n, hn⟩ : ∃ n : Nat, y.toInt = n := ⟨y.toInt.toNat, by omega⟩
    have ey : y = nI n := by rw [nI_i y (by omega), hn]; rfl
    have n40 : n ≤ 40 := by omega
    generalize hr : jrn (rowM h) n x 0 (stdM h) = r
    have rok := jrn_ok (k := n) (x := x) (c := 0) O h0 sO (by omega)
    rw [hr] at rok
    have rok' : StdOK (rowM h) r.2 (B + 3960) := StdOK_B rok.1 (by omega)
    have rm : r.1 ≤ 40 := by have := rok.2.2.1; omega
    rw [ey]
    unfold C_journey
    refine pk_lt n 1 (fun q => absurd q (by omega)) (fun _ => pk_le n 40 (fun _ => ?_) (fun q => absurd q (by omega)))
    refine c_copy sR rfS.2 rfS.1 (by decide) (by decide) (by decide) (by decide) (by decide) (fun h1 f1 R1 => ?_)
    have lo : ∀ o j, o ≠ 22 → o ≠ 23 → gI h1 o j = gI h o j := fun o j a b => f1.1 o j (by simp [oP, a, b])
    have loj : ∀ o j, o ≠ 22 → o ≠ 23 → gJ h1 o j = gJ h o j := fun o j a b => f1.2 o j (by simp [oP, a, b])
    refine ⟨n + 1, c_journey O n40 n 0 x 0 (stdM h) B h1 (by omega) h0 (by omega) (Fp.rf _ h1) (I.lnd (fun o j a b => lo o j (by omega) (by omega))) (StdR_k sR (fun y j hy => lo y j (by omega) (by omega)) (loj 20 1 (by omega) (by omega))) sO (fun h2 F2 R2 => ?_)⟩
    rw [hr] at R2 ⊢
    have FA : Fp scA h h2 := (f1.mo (fun o j q => oP22 o j (scD_A o j q))).tr (F2.mo oP20_A)
    have mside : ∀ (h3 : Hp) (K2 : Int32 → Hp → Prop), Fp scA h h3 → (∀ h4, (∀ o j, oB o j = false → gI h4 o j = gI h3 o j) → (∀ o j, oB o j = false → gJ h4 o j = gJ h3 o j) → (∀ j, j < 12 → gI h4 109 j = stdM h j) → (∀ j, j < 12 → gI h4 99 (58 + j) = r.2 j) → (nI r.1 ≤ 0 → K2 (nI r.1) h4) ∧ (¬ nI r.1 ≤ 0 → M_notes h4 (fun h7 => K2 (nI r.1) h7))) → M_journey x (nI n) h3 K2 := by
      intro h3 K2 F3 hK
      unfold M_journey
      rintro _ rfl
      refine m_inY (by rw [i_l, nI_toInt (by omega)]; show (1 : Int) ≤ _; omega) (by rw [i_l, nI_toInt (by omega)]; show _ ≤ (40 : Int); omega) (brF' (by decide) ?_)
      have e99 : ∀ j, gI (sI h3 98 0 0) 99 j = gI h 99 j := fun j => by rw [sI_o (by decide)]; exact F3.1 99 j (scA_hi (by omega))
      refine m_stores (fun h4 f4 s4 => ?_)
      rintro _ rfl
      refine ⟨n + 1, m_journey O n40 (fun j hj hn => ?_) n 0 x 0 (stdM h) B (sI h4 98 23 x) (by omega) h0 (by omega) (Fp.rf _ _) (sI_s _ _ _ _) (fun j hj => ?_) sO (fun h5 F5 g2 => ?_)⟩
      · show gI _ 99 j = _
        rw [sI_o (by decide), f4.1 99 j rfl]; exact e99 j
      · rw [sI_o (by decide), f4.1 99 _ rfl]; exact e99 _
      · rw [hr] at g2 ⊢
        have F5' : Fp oB h3 h5 := (((FpThr.mo scM_B).tr (f4.mo o109_B)).sI rfl).tr (F5.mo oJ_B)
        refine hK h5 F5'.1 F5'.2 (fun j hj => ?_) g2
        rw [F5.1 109 j rfl, sI_o (by decide), s4 j hj]; exact e99 _
    have PC2 : PastC h2 pm nx (segM h) := PastC_k pC (fun o j a b => by
        rw [F2.1 o j (by simp [oP]; omega)]; exact lo o j (by omega) (by omega)) (fun o j a b => by
        rw [F2.2 o j (by simp [oP]; omega)]; exact loj o j (by omega) (by omega))
    refine pk_le r.1 0 (fun q => ?_) (fun q => ?_)
    · have q0 : r.1 = 0 := by omega
      refine mside h2 _ FA (fun h4 g1 g2 g3 g4 => ⟨fun _ => ?_, fun e => absurd (nI_le (a := r.1) (b := 0) (by omega) (by decide)) e⟩)
      refine simEnd (k h4 ?_)
      have F4 : Fp oB h2 h4 := ⟨g1, g2⟩
      refine inv_deed (C := B + 3960) I (by omega) ((FA.mo scA_X).tr (F4.mo oB_X)) (s := r.2) (m := pm) (nx := nx) (D := segM h) ?_ g4 rok' ?_ ?_ (fun i hi => StdOK_B (pO i hi) (by omega))
      · exact StdR_k R2 (fun y j hy => g1 y j (oB_lo (by omega))) (g2 20 1 (oB_lo (by omega)))
      · exact PastC_k PC2 (fun o j a b => g1 o j (oB_lo (by omega))) (fun o j a b => g2 o j (oB_lo (by omega)))
      · have e99 : ∀ j, 70 ≤ j → gI h4 99 j = gI h 99 j := fun j hj => by
          rw [g1 99 j (by
            have : (decide (58 ≤ j) && decide (j < 70)) = false := by simp; omega
            simp only [oB, this, Bool.and_false, Bool.or_false]; rfl)]
          exact FA.1 99 j (scA_hi (by omega))
        exact ⟨(e99 70 (by omega)).trans pM.1, fun i hi j hj => (e99 _ (by omega)).trans (pM.2 i hi j hj)⟩
    · have R22 : StdR h2 22 23 (stdM h) := StdR_k R1 (fun y j hy => F2.1 y j (by simp [oP]; omega)) (F2.2 22 1 (by simp [oP]))
      refine c_keep R22 rfS.2 (by omega) (by omega) PC2 (fun h3 f3 pC3 => ?_)
      have FA3 : Fp scA h h3 := FA.tr (f3.mo oK_A)
      refine mside h3 _ FA3 (fun h4 g1 g2 g3 g4 => ⟨fun e => absurd e (nI_nle (by omega) (by omega)), fun _ => ?_⟩)
      exact push_end (C := B + 3960) I (by omega) (s := r.2) FA3 ⟨g1, g2⟩ pC3 pC.1 pM pO (StdR_k R2 (fun y j hy => f3.1 y j (oK_lo (by omega))) (f3.2 20 1 (oK_lo (by omega)))) g4 rok' g3 (fun h7 I7 f7 => simEnd (k h7 I7))
  · have l1 : (1 : Int32).toInt = 1 := by decide
    have l40 : (40 : Int32).toInt = 40 := by decide
    refine sim_q I (fun h2 I2 => k h2 (Inv_B I2 (by omega))) (-3) (fun Q hQ => ?_) (fun h1 Q I1 eR f1 hQ => ?_)
    · have := hQ h (Fp.rf _ h)
      unfold C_journey
      refine ⟨fun _ => this, fun q => ⟨fun q2 => ?_, fun _ => this⟩⟩
      rw [i_lt] at q
      rw [i_le] at q2
      exact absurd ⟨by omega, by omega⟩ hy
    · unfold M_journey
      rintro _ rfl
      refine m_inN ?_ (brT' rfl (hQ _ FpThr))
      rw [i_l]
      have h1 : (1 : Int64).toInt = 1 := rfl
      have h2 : (40 : Int64).toInt = 40 := rfl
      omega
