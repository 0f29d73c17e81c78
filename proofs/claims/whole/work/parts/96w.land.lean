/-! the reference's land -/
def NG : Nat → Nat → Bool := fun o _ => o == 98 || o == 102 || o == 99
theorem NG_N (o k : Nat) (h : NG o k = false) : NF o k = false := by
  simp only [NG, Bool.or_eq_false_iff] at h
  simp only [NF, h.1.1, h.1.2, Bool.false_and, Bool.or_false]
def NH : Nat → Nat → Bool := fun o _ => o == 98 || o == 102
theorem NH_N (o k : Nat) (h : NH o k = false) : NF o k = false := by
  simp only [NH, Bool.or_eq_false_iff] at h
  simp only [NF, h.1, h.2, Bool.false_and, Bool.or_false]
theorem af_M {a : Row} {st : Tx} {b : Nat → Nat} {n : Nat} {h : Hp} (hn : n ≤ 900) (I : SI b n st) (ok : ∃ p, st.1 = .inl p) (M : MI b n h st) (e : ∀ j, j < 1092 → j ≠ 1 → j ≠ 3 → a j = gI h 102 j) (e1 : a 1 = nI (npT st)) (e3 : a 3 = nI (miT st)) : AF a st := by
  obtain ⟨⟨i1, i2, i3⟩, ⟨i4, i5⟩, -⟩ := I.2.2 ok
  have l := (rok_le I.1).2
  obtain ⟨T, S, M2⟩ := M
  obtain ⟨⟨m1, m2, m3, m4⟩, m5, m6, m7⟩ := M2 ok
  have lw : ∀ law L, law < 2 → LwM h law L st.2.2.2.2.1 → LwA a law L := by
    intro law L hl M
    rcases M with ⟨z, q⟩ | ⟨ne, q, p, hp, q6, q8, qc⟩
    · exact Or.inl ⟨z, by rw [e _ (by omega) (by omega) (by omega)]; exact q⟩
    · exact Or.inr ⟨ne, by rw [e _ (by omega) (by omega) (by omega)]; exact q, p, by omega, by rw [e _ (by omega) (by omega) (by omega)]; exact q6, by rw [e _ (by omega) (by omega) (by omega)]; exact q8, fun i hi => by rw [e _ (by omega) (by omega) (by omega)]; exact qc i hi⟩
  refine ⟨⟨by rw [e 0 (by omega) (by omega) (by omega)]; exact m4, e1, by rw [e 2 (by omega) (by omega) (by omega)]; exact m3, e3⟩, fun i hi => ⟨?_, ?_, ?_⟩, lw 0 _ (by omega) m6, lw 1 _ (by omega) m7⟩
  · rw [e _ (by omega) (by omega) (by omega)]; exact (m5 i hi).1
  · rw [e _ (by omega) (by omega) (by omega)]; exact (m5 i hi).2.1
  · rw [e _ (by omega) (by omega) (by omega)]; exact (m5 i hi).2.2
theorem n_land {b : Nat → Nat} {n m : Nat} {g : Hp} {x : Int32} {st1 : Tx} {Q : Int32 → Hp → Prop} (B : TpB b n) (hx : x = nI n) (hm : n ≤ m) (m9 : m ≤ 900) (t5 : gI g 98 5 = nI m) (tb : ∀ k, k < n → gI g 101 k = nI (b k)) (X : TX b n (nlS b n (hd0 b n)) st1)
    (kF : ∀ g1 y, st1.1 = .inr y → Fp NH g g1 → gI g1 98 5 = 0 → gI g1 98 13 = nI y.1 → gI g1 98 14 = nI y.2 → Q ((-30 : Int32) - nI y.1) g1)
    (kO : ∀ g1, (∃ p, st1.1 = .inl p) → Fp NG g g1 → (∀ j, ¬ j < 1092 → gI g1 99 j = gI g 99 j) → gI g1 98 5 = 0 → gI g1 98 13 = 0 → gI g1 98 14 = -1 → AF (rowM g1) st1 → (∀ j, 58 ≤ j → j < 191 → j ≠ 61 → gI g1 99 j = if 62 ≤ j ∧ j < 70 then -1 else 0) → gI g1 99 61 = nI (wtR b n) → Q (nI st1.2.2.2.2.2) g1) : M_land x g Q := by
  have I1 : SI b n st1 := tx_iv X hd_si.2
  have B1 := B.1
  unfold M_land
  intro h1 g1
  have e5 : gI h1 98 5 = nI m := by rw [g1, sI_k (by decide)]; exact t5
  rw [e5]
  have z0 : (0 : Int64).toInt = 0 := rfl
  refine m_inY (by rw [i_l, hx, nI_toInt (by omega), z0]; omega) (by rw [i_l, i_l, hx, nI_toInt (by omega), nI_toInt (by omega)]; omega) (brF' (by decide) ?_)
  intro h4 g4 h5 g5 h6 g6 h7 g7
  have F7 : Fp NH g h7 := by
    rw [g7, g6, g5, g4, g1]
    exact ((((((Fp.rf NH g).sI rfl).sI rfl).sI rfl).sI rfl).sI rfl)
  have v8 : gI h7 98 8 = nI n := by rw [g7, sI_k (by decide), g6, sI_k (by decide), g5, sI_k (by decide), g4, sI_s, hx]
  have v5 : gI h7 98 5 = 0 := by rw [g7, sI_k (by decide), g6, sI_k (by decide), g5, sI_s]
  have v7 : gI h7 98 7 = 0 := by rw [g7, sI_k (by decide), g6, sI_s]
  have v11 : gI h7 98 11 = 0 := by rw [g7, sI_s]
  have T7 : TpM h7 b n := ⟨v8, fun k hk => (F7.1 101 k rfl).trans (tb k hk)⟩
  refine n_head B T7 v7 v11 X (fun h23 F23 M23 P23 W23 => ?_)
  intro h24 g24
  rintro J148 rfl
  have v523 : gI h23 98 5 = 0 := (F23.1.1 98 5 rfl).trans v5
  rcases hr : st1.1 with p | y
  · have ok : ∃ p, st1.1 = .inl p := ⟨p, hr⟩
    have S := M23.2.1
    rw [hr] at S
    have s11 : gI h23 98 11 = 0 := S.1
    have c24 : gI h24 98 11 = 0 := by rw [g24, sI_k (by decide)]; exact s11
    refine brT' c24 ?_
    intro h27 g27
    have c27 : gI h27 98 11 = 0 := by rw [g27, sI_k (by decide)]; exact c24
    have d13 : gI h27 98 13 = 0 := by rw [g27, sI_k (by decide), g24, sI_s]; exact s11
    have d14 : gI h27 98 14 = -1 := by rw [g27, sI_s]
    have d5 : gI h27 98 5 = 0 := by rw [g27, sI_k (by decide), g24, sI_k (by decide)]; exact v523
    have d102 : ∀ j, gI h27 102 j = gI h23 102 j := fun j => by rw [g27, sI_o (by decide), g24, sI_o (by decide)]
    have F27 : Fp NG g h27 := by
      rw [g27, g24]
      refine (((F7.mo (fun o k hh => ?_)).tr (F23.1.mo NG_N)).sI rfl).sI rfl
      simp only [NG, Bool.or_eq_false_iff] at hh
      simp only [NH, hh.1.1, hh.1.2, Bool.or_false]
    refine brT c27 (m_copy (fun h31 F31 c31 k31 => ?_))
    rintro J216 rfl
    have F31' : Fp NG g h31 := F27.tr (F31.1.mo (fun o k hh => by
      simp only [NG, Bool.or_eq_false_iff] at hh
      exact hh.2))
    have w31 : ∀ j, ¬ j < 1092 → gI h31 99 j = gI g 99 j := fun j hj => by
      rw [k31 j hj, g27, sI_o (by decide), g24, sI_o (by decide), F23.1.1 99 j rfl, F7.1 99 j rfl]
    have q1 : gI h31 99 1 = nI st1.2.1.1 := by rw [c31 1 (by omega), d102]; exact (M23.2.2 ok).1.1
    have q3 : gI h31 99 3 = nI st1.2.1.2.1 := by rw [c31 3 (by omega), d102]; exact (M23.2.2 ok).1.2.1
    have q0 : gI h31 99 0 = nI st1.2.2.2.2.2 := by rw [c31 0 (by omega), d102]; exact (M23.2.2 ok).1.2.2.2
    obtain ⟨⟨i1, i2, i3⟩, -⟩ := I1.2.2 ok
    have e98 : ∀ k, gI h31 98 k = gI h27 98 k := fun k => F31.1.1 98 k rfl
    have hiC : ∀ j, 58 ≤ j → j < 191 → j ≠ 61 → gI h31 99 j = if 62 ≤ j ∧ j < 70 then -1 else 0 := fun j h1 h2 h3 => by
      rw [c31 j (by omega), d102]; exact P23 j h1 h2 h3
    have hw : gI h31 99 61 = nI (wtR b n) := by rw [c31 61 (by omega), d102]; exact W23 ok
    by_cases c : st1.2.1.1 = 0
    · have z : gI h31 99 1 = 0 := by rw [q1, c]; rfl
      refine brT' z ?_
      intro h33 g33 h34 g34
      have q : ∀ j, j ≠ 1 → j ≠ 3 → gI h34 99 j = gI h31 99 j := fun j a1 a3 => by rw [g34, sI_k a3, g33, sI_k a1]
      rw [q 0 (by decide) (by decide), q0]
      refine kO h34 ok (by rw [g34, g33]; exact (F31'.sI rfl).sI rfl) (fun j hj => by rw [q j (by omega) (by omega)]; exact w31 j hj) ?_ ?_ ?_ (af_M (h := h23) B1 I1 ok M23 (fun j hj a1 a3 => ?_) ?_ ?_) (fun j h1 h2 h3 => by rw [q j (by omega) (by omega)]; exact hiC j h1 h2 h3) (by rw [q 61 (by decide) (by decide)]; exact hw)
      · rw [g34, sI_o (by decide), g33, sI_o (by decide), e98]; exact d5
      · rw [g34, sI_o (by decide), g33, sI_o (by decide), e98]; exact d13
      · rw [g34, sI_o (by decide), g33, sI_o (by decide), e98]; exact d14
      · show gI h34 99 j = _
        rw [q j a1 a3, c31 j hj, d102]
      · show gI h34 99 1 = _
        unfold npT
        rw [if_pos c, g34, sI_k (by decide), g33, sI_s]; rfl
      · show gI h34 99 3 = _
        unfold miT
        rw [if_pos c, g34, sI_s]; rfl
    · have z : ¬ gI h31 99 1 = 0 := by
        rw [q1]
        exact fun z => c ((nI_eq (a := st1.2.1.1) (b := 0) (by omega) (by omega)).mp z)
      refine brF' z ?_
      show Q (gI h31 99 0) h31
      rw [q0]
      refine kO h31 ok F31' w31 ?_ ?_ ?_ (af_M (h := h23) B1 I1 ok M23 (fun j hj a1 a3 => ?_) ?_ ?_) hiC hw
      · rw [e98]; exact d5
      · rw [e98]; exact d13
      · rw [e98]; exact d14
      · show gI h31 99 j = _
        rw [c31 j hj, d102]
      · show gI h31 99 1 = _
        unfold npT
        rw [if_neg c]; exact q1
      · show gI h31 99 3 = _
        unfold miT
        rw [if_neg c]; exact q3
  · have S := M23.2.1
    have KK := I1.1
    rw [hr] at S KK
    have s11 : gI h23 98 11 = nI y.1 := S.1
    have s12 : gI h23 98 12 = nI y.2 := S.2
    have c24 : gI h24 98 11 = nI y.1 := by rw [g24, sI_k (by decide)]; exact s11
    have ne : ¬ gI h24 98 11 = 0 := fun z => w_ne KK (c24.symm.trans z)
    refine brF' ne ?_
    intro h27 g27
    have c27 : gI h27 98 11 = nI y.1 := by rw [g27, sI_k (by decide)]; exact c24
    refine brF (fun z => w_ne KK (c27.symm.trans z)) ?_
    rw [c27]
    refine kF h27 y hr ?_ ?_ ?_ ?_
    · rw [g27, g24]
      exact ((F7.tr (F23.1.mo NH_N)).sI rfl).sI rfl
    · rw [g27, sI_k (by decide), g24, sI_k (by decide)]; exact v523
    · rw [g27, sI_k (by decide), g24, sI_s]; exact s11
    · rw [g27, sI_s, g24, sI_k (by decide)]; exact s12
