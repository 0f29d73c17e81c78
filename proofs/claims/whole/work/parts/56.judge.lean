/-! judge, perform -/
def rnD (a : Row) (f : Nat → Int) : Nat → Nat → Row → Nat × Int32 × Row
  | 0, i, s => (i, 0, s)
  | k + 1, i, s => if whyD a s (f i) = 0 then rnD a f k (i + 1) (doD a s (f i)) else (i, whyD a s (f i), s)
theorem rnD_ok {a : Row} {f : Nat → Int} (O : LandOK a) : ∀ {k i : Nat} {s : Row} {B : Int}, 0 ≤ B → StdOK a s B → B + 99 * k < 2 ^ 31 → StdOK a (rnD a f k i s).2.2 (B + 99 * k)
  | 0, i, s, B, h0, h, hB => by show StdOK a s (B + 99 * ((0 : Nat) : Int)); rw [show B + 99 * ((0 : Nat) : Int) = B by omega]; exact h
  | k + 1, i, s, B, h0, h, hB => by
    unfold rnD
    by_cases q : whyD a s (f i) = 0
    · rw [if_pos q, show B + 99 * ((k + 1 : Nat) : Int) = (B + 99) + 99 * (k : Int) by omega]
      exact rnD_ok O (by omega) (doD_ok O h (by omega) h0 q) (by omega)
    · rw [if_neg q]; exact StdOK_B h (by omega)
theorem rnD_le {a : Row} {f : Nat → Int} : ∀ {k i : Nat} {s : Row}, i ≤ (rnD a f k i s).1 ∧ (rnD a f k i s).1 ≤ i + k ∧ ((rnD a f k i s).1 < i + k ↔ (rnD a f k i s).2.1 ≠ 0) ∧ ((rnD a f k i s).1 < i + k → (rnD a f k i s).2.1 = whyD a (rnD a f k i s).2.2 (f (rnD a f k i s).1)) ∧ ((rnD a f k i s).1 = i → (rnD a f k i s).2.2 = s)
  | 0, i, s => ⟨Nat.le_refl i, Nat.le_refl _, by show i < i + 0 ↔ (0 : Int32) ≠ 0; simp, fun h => absurd h (by show ¬ i < i + 0; omega), fun _ => rfl⟩
  | k + 1, i, s => by
    unfold rnD
    by_cases q : whyD a s (f i) = 0
    · rw [if_pos q]
      have := rnD_le (a := a) (f := f) (k := k) (i := i + 1) (s := doD a s (f i))
      rw [show i + (k + 1) = i + 1 + k by omega]
      exact ⟨by omega, this.2.1, this.2.2.1, this.2.2.2.1, fun h => absurd h (by omega)⟩
    · rw [if_neg q]
      exact ⟨Nat.le_refl _, by show i ≤ _; omega, ⟨fun _ => q, fun _ => by show i < _; omega⟩, fun _ => rfl, fun _ => rfl⟩
theorem c_doAll {h0 : Hp} {Q : Int32 → Hp → Prop} {a : Row} {o pl o2 m : Nat} {f : Nat → Int} (O : LandOK a) (ho : o = 20 ∨ o = 22) (hpl : pl = o + 1) (hm : m ≤ 40) (em : gI h0 o2 1 = nI m) (eo2 : 46 ≤ o2 ∧ o2 ≤ 53) (er : rf o2 2 = o2 + 1) (ef : ∀ j, j < m → (gJ h0 (o2 + 1) j).toInt = f j) :
    ∀ (k i : Nat) (s : Row) (B : Int) (h : Hp), i + k = m → 0 ≤ B → B + 99 * k < 2 ^ 31 → Fp (oP o pl) h0 h → Lnd h a → StdR h o pl s → StdOK a s B → (∀ h1, Fp (oP o pl) h0 h1 → Lnd h1 a → StdR h1 o pl (rnD a f k i s).2.2 → Q (nI (rnD a f k i s).1) h1) → Stand_doAll_L2 o o2 Q (k + 1) (nI i) h := by
  intro k
  induction k with
  | zero =>
    intro i s B h hi hB0 hB F L R sO hQ
    have e1 : gI h o2 1 = nI m := (F.1 o2 1 (by simp [oP]; omega)).trans em
    unfold Stand_doAll_L2
    rw [e1]
    refine pk_le m i (fun _ => ?_) (fun q => absurd q (by omega))
    have := hQ h F L R
    rw [show (rnD a f 0 i s).1 = m by show i = m; omega] at this
    exact this
  | succ k ih =>
    intro i s B h hi hB0 hB F L R sO hQ
    have e1 : gI h o2 1 = nI m := (F.1 o2 1 (by simp [oP]; omega)).trans em
    unfold Stand_doAll_L2
    rw [e1]
    refine pk_le m i (fun q => absurd q (by omega)) (fun _ => ?_)
    unfold Tray_number
    refine brF (nI_pos (by omega)) (pk_le 40 i (fun q => absurd q (by omega)) (fun _ => ⟨pk_in i 40 (by omega), ?_⟩))
    rw [cl i, er, F.2 (o2 + 1) i (by simp [oP]; omega)]
    have ei : (gJ h0 (o2 + 1) i).toInt = f i := ef i (by omega)
    refine c_tryDeed L O R ho hpl sO (by omega) (fun h1 f1 L1 R1 => ?_)
    rw [ei] at R1 ⊢
    refine ⟨fun q => ?_, fun q => ?_⟩
    · rintro _ rfl
      rw [nI_1]
      rw [if_pos q] at R1
      refine ih (i + 1) (doD a s (f i)) (B + 99) h1 (by omega) (by omega) (by omega) (F.tr f1) L1 R1 (doD_ok O sO (by omega) hB0 q) (fun h2 F2 L2 R2 => ?_)
      have := hQ h2 F2 L2
      unfold rnD at this
      rw [if_pos q] at this
      exact this R2
    · rw [if_neg q] at R1
      have := hQ h1 (F.tr f1) L1
      unfold rnD at this
      rw [if_neg q] at this
      exact this R1
def oY : Nat → Nat → Bool := fun o j => oW o || (o == 99 && (decide (58 ≤ j) && decide (j < 70))) || (o == 98 && j == 22)
theorem oY_B (o k : Nat) (h : oB o k = false) : oY o k = false := by
  simp only [oB, Bool.or_eq_false_iff] at h
  have h1 := scM_W o k h.1
  have h3 : (o == 98 && k == 22) = false := by
    have h4 := h.1
    simp only [scM, Bool.or_eq_false_iff] at h4
    by_cases q : k = 22
    · subst q
      have h5 := h4.1
      simp at h5
      simp [h5]
    · simp [q]
  simp only [oY, h1, h.2, h3, Bool.or_false]
theorem m_tells {h0 : Hp} {Q : Int32 → Hp → Prop} {a : Row} {t m : Nat} {f : Nat → Int} (O : LandOK a) (ht : t < 4) (hm : m ≤ 40) (em : gI h0 125 t = nI m) (ef : ∀ j, j < m → (gJ h0 126 (40 * t + j)).toInt = f j) (E0 : LSame a (rowM h0)) :
    ∀ (k i : Nat) (s : Row) (B : Int) (h : Hp), i + k = m → 0 ≤ B → B + 99 * k < 2 ^ 31 → Fp oY h0 h → gI h 98 22 = 0 → (∀ j, j < 12 → gI h 99 (58 + j) = s j) → StdOK a s B → (∀ h1, Fp oY h0 h1 → gI h1 98 22 = (rnD a f k i s).2.1 → (∀ j, j < 12 → gI h1 99 (58 + j) = (rnD a f k i s).2.2 j) → Q (nI (rnD a f k i s).1) h1) → M_tells_L7 (nI t) Q (k + 1) (nI i) h := by
  have LS : ∀ {h : Hp}, Fp oY h0 h → LSame a (rowM h) := fun F j hj hn => by
    refine Eq.trans ?_ (E0 j hj hn)
    have hb : (decide (58 ≤ j) && decide (j < 70)) = false := by simp; omega
    exact F.1 99 j (by simp only [oY, hb, Bool.and_false, Bool.or_false]; rfl)
  intro k
  induction k with
  | zero =>
    intro i s B h hi hB0 hB F h22 hs sO hQ
    have e1 : gI h 125 t = nI m := (F.1 125 t rfl).trans em
    unfold M_tells_L7
    refine ⟨pk_in t 4 ht, ?_⟩
    rw [cl t, e1]
    refine pk_le m i (fun _ => ⟨pk_in t 4 ht, ?_⟩) (fun q => absurd q (by omega))
    have := hQ h F h22 hs
    rw [show (rnD a f 0 i s).1 = m by show i = m; omega] at this
    exact this
  | succ k ih =>
    intro i s B h hi hB0 hB F h22 hs sO hQ
    have e1 : gI h 125 t = nI m := (F.1 125 t rfl).trans em
    unfold M_tells_L7
    refine ⟨pk_in t 4 ht, ?_⟩
    rw [cl t, e1]
    refine pk_le m i (fun q => absurd q (by omega)) (fun _ => ?_)
    have e40 : (40 : Int32) * nI t + nI i = nI (40 * t + i) := by
      show nI 40 * nI t + nI i = _
      rw [pk_mul, nI_add]
    rw [e40]
    refine ⟨pk_in (40 * t + i) 160 (by omega), ?_⟩
    rw [cl (40 * t + i), F.2 126 _ rfl]
    have ei : (gJ h0 126 (40 * t + i)).toInt = f i := ef i (by omega)
    refine m_whyNotF O (LS F) hs sO (fun h1 f1 r1 => ?_)
    rw [ei]
    rintro h4 rfl
    rw [sI_s]
    have F4 : Fp oY h0 (sI h1 98 22 (whyD a s (f i))) := Fp.sI (F.tr (f1.fp (fun o j q => by simp only [oY, Bool.or_eq_false_iff] at q; exact q.1.1))) (by decide)
    have s4 : ∀ x j, j < 12 → gI (sI h1 98 22 x) 99 (58 + j) = s j := fun x j hj => by rw [sI_o (by decide)]; exact (congrFun r1 _).trans (hs j hj)
    refine ⟨fun q => ⟨pk_in (40 * t + i) 160 (by omega), ?_⟩, fun q => ?_⟩
    · rw [q]
      rw [q] at F4
      have e126 : gJ (sI h1 98 22 0) 126 (40 * t + i) = gJ h0 126 (40 * t + i) := F4.2 126 _ rfl
      rw [e126]
      have rng : 0 ≤ f i ∧ f i ≤ 8999 := by
        unfold whyD at q
        by_cases a1 : 0 ≤ f i ∧ f i ≤ 16
        · omega
        · rw [if_neg a1] at q
          by_cases a2 : 20 ≤ f i ∧ f i ≤ 30
          · omega
          · rw [if_neg a2] at q
            by_cases a3 : 1000 ≤ f i ∧ f i ≤ 8999
            · omega
            · rw [if_neg a3] at q; exact absurd q (by decide)
      have e32 : (gJ h0 126 (40 * t + i)).toInt32.toInt = f i := by rw [l_i (by omega)]; exact ei
      refine m_does O (LS F4) (s4 0) sO (by rw [e32]; exact q) (fun h5 f5 s5 => ?_)
      rw [e32] at s5
      rintro _ rfl
      rw [nI_1]
      have F5 : Fp oY h0 h5 := F4.tr (f5.mo (fun o j q => by simp only [oY, Bool.or_eq_false_iff] at q; simp only [Bool.or_eq_false_iff]; exact q.1))
      refine ih (i + 1) (doD a s (f i)) (B + 99) h5 (by omega) (by omega) (by omega) F5 ?_ s5 (doD_ok O sO (by omega) hB0 q) (fun h6 F6 g1 g2 => ?_)
      · rw [f5.1 98 22 rfl, sI_s]
      · have := hQ h6 F6
        unfold rnD at this
        rw [if_pos q] at this
        exact this g1 g2
    · have := hQ _ F4
      unfold rnD at this
      rw [if_neg q] at this
      exact this (sI_s _ _ _ _) (fun j hj => s4 _ j hj)
