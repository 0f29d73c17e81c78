/-! the reference's ways -/
def wset (l : List Nat) : Nat → Bool := fun o => l.contains o
theorem s_isIn {n j : Nat} {h : Hp} {Q : Int32 → Hp → Prop} (hn : n < 2 ^ 31) (hj : j < 64) (k : Q (if n.testBit j then 1 else 0) h) : M_isIn ((nI n).toInt64) (nI j) h Q := by
  unfold M_isIn
  rw [z_lbit hn hj]
  refine ⟨fun e => ?_, fun e => ?_⟩
  · rw [if_neg e] at k; exact k
  · rw [if_pos e] at k; exact k
theorem s_laysWords {a : Row} {r w : Nat} {h : Hp} {Q : Hp → Prop} (hr : r < 16) (h99 : ∀ j, gI h 99 j = a j) (k : ∀ h1, Fr (o1 104) h h1 → (∀ j, j < 5 → gI h1 104 j = wordsA a r w j) → Q h1) : M_laysWords (nI r) (nI w) h Q := by
  unfold M_laysWords
  have e42 : (42 : Int32) + nI r = nI (42 + r) := nI_add 42 r
  have e10 : (10 : Int32) + nI r = nI (10 + r) := nI_add 10 r
  have e26 : (26 : Int32) + nI r = nI (26 + r) := nI_add 26 r
  rw [e42, e10, e26]
  refine ⟨pk_in (42 + r) 3276 (by omega), ?_⟩
  rintro _ rfl
  refine ⟨pk_in (10 + r) 3276 (by omega), ?_⟩
  rintro _ rfl
  refine ⟨pk_in (26 + r) 3276 (by omega), ?_⟩
  rintro _ rfl _ rfl _ rfl
  rw [pk_cl (42 + r), pk_cl (10 + r), pk_cl (26 + r)]
  refine k _ ?_ ?_
  · exact (((((Fr.rf _ h).sI (o1_t 104)).sI (o1_t 104)).sI (o1_t 104)).sI (o1_t 104)).sI (o1_t 104)
  · intro j hj
    simp only [gI_sI, h99]
    match j, hj with
    | 0, _ => rfl
    | 1, _ => rfl
    | 2, _ => rfl
    | 3, _ => rfl
    | 4, _ => rfl
def o2 (x y : Nat) : Nat → Bool := fun o => o == x || o == y
theorem Fr.o1l {x y : Nat} {h h1 : Hp} (a : Fr (o1 x) h h1) : Fr (o2 x y) h h1 := a.mo (fun o q => by simp only [o1, o2, Bool.or_eq_false_iff] at *; exact q.1)
theorem Fr.o1r {x y : Nat} {h h1 : Hp} (a : Fr (o1 y) h h1) : Fr (o2 x y) h h1 := a.mo (fun o q => by simp only [o1, o2, Bool.or_eq_false_iff] at *; exact q.2)
theorem s_payBy {a : Row} {r w : Nat} {h : Hp} {Q : Int32 → Hp → Prop} (hL : LandOK a) (hr : r < nR a) (h99 : ∀ j, gI h 99 j = a j) (k : ∀ h1, Fr (o2 103 104) h h1 → Q (payA a w r) h1) : M_payBy (nI r) (nI w) h Q := by
  obtain ⟨-, ⟨hR, -⟩, -, h4, -, -⟩ := hL
  unfold M_payBy
  refine s_laysWords (a := a) (by omega) h99 (fun h1 f1 hw => ?_)
  rintro J rfl
  have h99' : ∀ j, gI h1 99 j = a j := fun j => (f1.1 99 j rfl).trans (h99 j)
  have fin : ∀ (v : Int32) (h2 : Hp), clampP v = payA a w r → Fr (o2 103 104) h h2 → ((-99) ≤ v → (v ≤ 99 → Q v h2) ∧ (¬ v ≤ 99 → Q 99 h2)) ∧ (¬ (-99) ≤ v → Q (-99) h2) := by
    intro v h2 e f
    have := k h2 f
    rw [← e] at this
    unfold clampP at this
    refine ⟨fun q1 => ⟨fun q2 => ?_, fun q2 => ?_⟩, fun q1 => ?_⟩
    · rw [if_pos q1, if_pos q2] at this; exact this
    · rw [if_pos q1, if_neg q2] at this; exact this
    · rw [if_neg q1] at this; exact this
  have e42 : (42 : Int32) + nI r = nI (42 + r) := nI_add 42 r
  rw [h99', e42]
  refine ⟨fun q => ⟨pk_in (42 + r) 3276 (by omega), ?_⟩, fun q => ?_⟩
  · rw [pk_cl (42 + r), h99']
    exact fin _ _ (by unfold payA; rw [if_neg q]) f1.o1r
  · rcases h4 with q0 | ⟨-, hc⟩
    · rw [q0] at q; exact absurd q (by decide)
    · exact s_reckons (law := 0) (by decide) hc h99' hw (fun h2 f2 => fin _ _ (by unfold payA; rw [if_pos q]) (f1.o1r.tr f2.o1l))
theorem s_isOpen {a : Row} {r w : Nat} {h : Hp} {Q : Int32 → Hp → Prop} (hL : LandOK a) (hr : r < nR a) (h99 : ∀ j, gI h 99 j = a j) (hw : a 61 = nI w) (k : ∀ h1, Fr (o2 103 104) h h1 → Q (if opnA a w r then 1 else 0) h1) : M_isOpen (nI r) h Q := by
  obtain ⟨-, ⟨hR, -⟩, -, -, h5, -⟩ := hL
  unfold M_isOpen
  rw [h99, hw]
  refine s_laysWords (a := a) (by omega) h99 (fun h1 f1 hw => ?_)
  rintro J rfl
  have h99' : ∀ j, gI h1 99 j = a j := fun j => (f1.1 99 j rfl).trans (h99 j)
  rw [h99']
  refine ⟨fun q => ?_, fun q => ?_⟩
  · have := k h1 f1.o1r
    unfold opnA at this
    rw [if_pos q] at this
    exact this
  · rcases h5 with q0 | ⟨-, hc⟩
    · exact absurd q0 q
    · refine s_reckons (law := 1) (by decide) hc h99' hw (fun h2 f2 => ?_)
      have := k h2 (f1.o1r.tr f2.o1l)
      unfold opnA at this
      rw [if_neg q] at this
      refine ⟨fun e => ?_, fun e => ?_⟩
      · rw [decide_eq_false e] at this; exact this
      · rw [decide_eq_true e] at this; exact this
/-- the open roads from a place; the ways (staying as the reference has it) -/
def obs (a : Row) (w p : Nat) : Nat := bset (fun r => fromA a r == p && opnA a w r) (nR a)
def wys (a : Row) (w p : Nat) : Nat := if obs a w p = 0 then 2 ^ (16 + p) else obs a w p
def WaysM (h : Hp) (a : Row) (w : Nat) : Prop := (∀ p, p < 8 → gI h 108 p = if p < nP a then nI (wys a w p) else 0) ∧ (∀ r, r < nR a → gI h 105 r = nI (fromA a r) ∧ gI h 106 r = nI (toA a r) ∧ gI h 107 r = payA a w r) ∧ (∀ p, p < nP a → gI h 105 (16 + p) = nI p ∧ gI h 106 (16 + p) = nI p ∧ gI h 107 (16 + p) = 0)
def oW : Nat → Bool := fun o => decide (103 ≤ o) && decide (o ≤ 108)
theorem Fr.toW {h h1 : Hp} (a : Fr (o2 103 104) h h1) : Fr oW h h1 := a.mo (fun o q => by
  have : ¬ (103 ≤ o ∧ o ≤ 108) := by simpa [oW] using q
  simp only [o2, Bool.or_eq_false_iff, beq_eq_false_iff_ne]
  omega)
