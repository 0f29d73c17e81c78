theorem cl (n : Nat) (h : n < 2 ^ 31 := by omega) : (nI n).toNatClampNeg = n := nI_clamp h
theorem frW {h h1 : Hp} {o k : Nat} {x : Int32} (ho : oW o = true) (a : Fr oW h h1) : Fr oW h (sI h1 o k x) := Fr.sI a ho
theorem bset_no {f : Nat → Bool} {n : Nat} (h : f n = false) : bset f (n + 1) = bset f n := by
  show bset f n + _ = _
  rw [if_neg (by rw [h]; decide), Nat.add_zero]
theorem lw_L2 {K : Hp → Prop} {h0 : Hp} (k : ∀ h1, Fr oW h0 h1 → (∀ p, p < 8 → gI h1 108 p = 0) → K h1) : ∀ (rem i : Nat) (h : Hp), i + rem = 8 → Fr oW h0 h → (∀ p, p < i → gI h 108 p = 0) → M_laysWays_L2 K (rem + 1) (nI i) h := by
  intro rem
  induction rem with
  | zero =>
    intro i h hi f hz
    unfold M_laysWays_L2
    refine pk_le 8 i (fun _ => ?_) (fun q => absurd q (by omega))
    exact k h f (fun p hp => hz p (by omega))
  | succ rem ih =>
    intro i h hi f hz
    unfold M_laysWays_L2
    refine pk_le 8 i (fun q => absurd q (by omega)) (fun _ => ⟨pk_in i 8 (by omega), ?_⟩)
    rw [cl i]
    rintro _ rfl _ rfl
    rw [nI_1]
    refine ih (i + 1) _ (by omega) (frW rfl f) (fun p hp => ?_)
    by_cases e : p = i
    · subst e; rw [sI_s]
    · rw [sI_k e]; exact hz p (by omega)
/-- behind i roads -/
def W2 (h : Hp) (a : Row) (w i : Nat) : Prop := (∀ p, p < 8 → gI h 108 p = nI (bset (fun r => fromA a r == p && opnA a w r) i)) ∧ ∀ r, r < i → gI h 105 r = nI (fromA a r) ∧ gI h 106 r = nI (toA a r) ∧ gI h 107 r = payA a w r
theorem lw_L23 {K : Hp → Prop} {h0 : Hp} {a : Row} {w : Nat} (hL : LandOK a) (h99 : ∀ j, gI h0 99 j = a j) (hw : a 61 = nI w) (k : ∀ h1, Fr oW h0 h1 → W2 h1 a w (nR a) → K h1) : ∀ (rem i : Nat) (h : Hp), i + rem = nR a → Fr oW h0 h → W2 h a w i → M_laysWays_L23 K (rem + 1) (nI i) h := by
  obtain ⟨⟨hP1, hP8, -⟩, ⟨hR, eR⟩, hft, -, -, -⟩ := id hL
  intro rem
  induction rem with
  | zero =>
    intro i h hi f hz
    have g99 : ∀ j, gI h 99 j = a j := fun j => (f.1 99 j rfl).trans (h99 j)
    unfold M_laysWays_L23
    rw [g99, eR]
    refine pk_le (nR a) i (fun _ => ?_) (fun q => absurd q (by omega))
    have : i = nR a := by omega
    subst this
    exact k h f hz
  | succ rem ih =>
    intro i h hi f hz
    have g99 : ∀ j, gI h 99 j = a j := fun j => (f.1 99 j rfl).trans (h99 j)
    have hir : i < nR a := by omega
    obtain ⟨⟨ef, hf⟩, et, ht⟩ := hft i hir
    have e10 : (10 : Int32) + nI i = nI (10 + i) := nI_add 10 i
    have e26 : (26 : Int32) + nI i = nI (26 + i) := nI_add 26 i
    unfold M_laysWays_L23
    rw [g99, eR]
    refine pk_le (nR a) i (fun q => absurd q (by omega)) (fun _ => ?_)
    rw [e10, e26]
    refine ⟨pk_in (10 + i) 3276 (by omega), pk_in i 24 (by omega), ?_⟩
    rintro h5 rfl
    refine ⟨pk_in (26 + i) 3276 (by omega), pk_in i 24 (by omega), ?_⟩
    rintro h6 rfl
    simp only [sI_o (show (99 : Nat) ≠ 105 by decide), sI_o (show (99 : Nat) ≠ 106 by decide), g99, hw]
    rw [cl (10 + i), cl (26 + i), cl i, ef, et]
    refine s_payBy (a := a) hL hir (fun j => by rw [sI_o (by decide), sI_o (by decide)]; exact g99 j) (fun h8 f8 => ?_)
    refine ⟨pk_in i 24 (by omega), ?_⟩
    rintro h9 rfl
    have f9 : Fr oW h0 (sI h8 107 i (payA a w i)) := frW rfl ((frW rfl (frW rfl f)).tr f8.toW)
    have e105 : gI (sI h8 107 i (payA a w i)) 105 i = nI (fromA a i) := by
      rw [sI_o (by decide), f8.1 105 i rfl, sI_o (by decide), sI_s]
    rw [e105]
    refine ⟨pk_in i 24 (by omega), pk_in (fromA a i) 8 (by omega), ?_⟩
    rw [cl (fromA a i)]
    refine s_isOpen (a := a) hL hir (fun j => (f9.1 99 j rfl).trans (h99 j)) hw (fun h11 f11 => ?_)
    have f12 : Fr oW h0 h11 := f9.tr f11.toW
    have e108 : ∀ p, p < 8 → gI (sI h8 107 i (payA a w i)) 108 p = nI (bset (fun r => fromA a r == p && opnA a w r) i) := by
      intro p hp
      rw [sI_o (by decide), f8.1 108 p rfl, sI_o (by decide), sI_o (by decide), hz.1 p hp]
    have fin : ∀ s : Nat, s = (if opnA a w i then 2 ^ i else 0) → (vp_in (nI (fromA a i)) 8 ∧ ∀ h14 : Hp, h14 = sI h11 108 (fromA a i) (gI (sI h8 107 i (payA a w i)) 108 (fromA a i) ||| nI s) → ∀ v15 : Int32, v15 = (nI i + 1) → M_laysWays_L23 K (rem + 1) v15 h14) := by
      intro s hs
      refine ⟨pk_in (fromA a i) 8 (by omega), ?_⟩
      rintro _ rfl _ rfl
      rw [nI_1]
      refine ih (i + 1) _ (by omega) (frW rfl f12) ⟨fun p hp => ?_, fun r hr => ?_⟩
      · by_cases e : p = fromA a i
        · subst e
          rw [sI_s, e108 _ hp, z_or, hs]
          rw [← bset_or]
          simp only [beq_self_eq_true, Bool.true_and]
        · rw [sI_k e, f11.1 108 p rfl, e108 p hp]
          rw [bset_no (f := fun r => fromA a r == p && opnA a w r) (n := i) (by simp only [Bool.and_eq_false_iff, beq_eq_false_iff_ne]; exact Or.inl (fun q => e q.symm))]
      · have q : ∀ o, o = 105 ∨ o = 106 ∨ o = 107 → gI (sI h11 108 (fromA a i) (gI (sI h8 107 i (payA a w i)) 108 (fromA a i) ||| nI s)) o r = gI (sI h8 107 i (payA a w i)) o r := by
          intro o ho
          rw [sI_o (by omega), f11.1 o r (by rcases ho with rfl | rfl | rfl <;> rfl)]
        rw [q 105 (by simp), q 106 (by simp), q 107 (by simp)]
        by_cases e : r = i
        · subst e
          refine ⟨e105, ?_, sI_s _ _ _ _⟩
          rw [sI_o (by decide), f8.1 106 r rfl, sI_s]
        · rw [sI_o (by decide), sI_o (by decide), sI_k e, f8.1 105 r rfl, f8.1 106 r rfl, f8.1 107 r rfl, sI_o (by decide), sI_k e, sI_k e, sI_o (by decide), sI_o (by decide), sI_o (by decide)]
          exact hz.2 r (by omega)
    rintro J rfl
    refine ⟨fun q => ?_, fun q => ?_⟩
    · by_cases ho : opnA a w i = true
      · rw [if_pos ho] at q; exact absurd q (by decide)
      · exact fin 0 (by rw [if_neg ho])
    · by_cases ho : opnA a w i = true
      · rw [z_1 i (by omega)]
        exact fin (2 ^ i) (by rw [if_pos ho])
      · rw [if_neg ho] at q; exact absurd rfl q
theorem lw_L118 {K : Hp → Prop} {h0 : Hp} {a : Row} {w : Nat} (hL : LandOK a) (h99 : ∀ j, gI h0 99 j = a j) (k : ∀ h1, Fr oW h0 h1 → WaysM h1 a w → K h1) : ∀ (rem i : Nat) (h : Hp), i + rem = nP a → Fr oW h0 h → (∀ p, p < 8 → gI h 108 p = if p < i then nI (wys a w p) else nI (obs a w p)) → (∀ r, r < nR a → gI h 105 r = nI (fromA a r) ∧ gI h 106 r = nI (toA a r) ∧ gI h 107 r = payA a w r) → (∀ p, p < i → gI h 105 (16 + p) = nI p ∧ gI h 106 (16 + p) = nI p ∧ gI h 107 (16 + p) = 0) → M_laysWays_L118 K (rem + 1) (nI i) h := by
  obtain ⟨⟨hP1, hP8, eP⟩, ⟨hR, eR⟩, hft, -, -, -⟩ := id hL
  have hob : ∀ p, obs a w p < 2 ^ 16 := fun p => Nat.lt_of_lt_of_le (bset_lt _ _) (Nat.pow_le_pow_right (by decide) hR)
  intro rem
  induction rem with
  | zero =>
    intro i h hi f z1 z2 z3
    have g99 : ∀ j, gI h 99 j = a j := fun j => (f.1 99 j rfl).trans (h99 j)
    unfold M_laysWays_L118
    rw [g99, eP]
    refine pk_le (nP a) i (fun _ => ?_) (fun q => absurd q (by omega))
    have : i = nP a := by omega
    subst this
    refine k h f ⟨fun p hp => ?_, z2, z3⟩
    rw [z1 p hp]
    by_cases q : p < nP a
    · rw [if_pos q, if_pos q]
    · rw [if_neg q, if_neg q]
      have : obs a w p = 0 := bset_0.mpr (fun r hr => by
        have := (hft r hr).1.2
        simp only [Bool.and_eq_false_iff, beq_eq_false_iff_ne]
        exact Or.inl (by omega))
      rw [this]
      rfl
  | succ rem ih =>
    intro i h hi f z1 z2 z3
    have g99 : ∀ j, gI h 99 j = a j := fun j => (f.1 99 j rfl).trans (h99 j)
    have e16 : (16 : Int32) + nI i = nI (16 + i) := nI_add 16 i
    unfold M_laysWays_L118
    rw [g99, eP, e16]
    refine pk_le (nP a) i (fun q => absurd q (by omega)) (fun _ => ⟨pk_in (16 + i) 24 (by omega), ?_⟩)
    rw [cl (16 + i), cl i]
    rintro _ rfl
    refine ⟨pk_in (16 + i) 24 (by omega), ?_⟩
    rintro _ rfl
    refine ⟨pk_in (16 + i) 24 (by omega), ?_⟩
    rintro _ rfl
    refine ⟨pk_in i 8 (by omega), ?_⟩
    rintro J rfl
    generalize hh3 : sI (sI (sI h 105 (16 + i) (nI i)) 106 (16 + i) (nI i)) 107 (16 + i) 0 = h3
    have f3 : Fr oW h0 h3 := by rw [← hh3]; exact frW rfl (frW rfl (frW rfl f))
    have q108 : ∀ p, gI h3 108 p = gI h 108 p := fun p => by rw [← hh3, sI_o (by decide), sI_o (by decide), sI_o (by decide)]
    have q2 : ∀ r, r < nR a → gI h3 105 r = nI (fromA a r) ∧ gI h3 106 r = nI (toA a r) ∧ gI h3 107 r = payA a w r := fun r hr => by
      rw [← hh3, sI_o (by decide), sI_o (by decide), sI_k (by omega), sI_o (by decide), sI_k (by omega), sI_o (by decide), sI_k (by omega), sI_o (by decide), sI_o (by decide)]
      exact z2 r hr
    have q3 : ∀ p, p < i + 1 → gI h3 105 (16 + p) = nI p ∧ gI h3 106 (16 + p) = nI p ∧ gI h3 107 (16 + p) = 0 := fun p hp => by
      by_cases e : p = i
      · subst e
        rw [← hh3, sI_o (by decide), sI_o (by decide), sI_s, sI_o (by decide), sI_s, sI_s]
        exact ⟨rfl, rfl, rfl⟩
      · rw [← hh3, sI_o (by decide), sI_o (by decide), sI_k (by omega), sI_o (by decide), sI_k (by omega), sI_o (by decide), sI_k (by omega), sI_o (by decide), sI_o (by decide)]
        exact z3 p (by omega)
    have e108 : gI h3 108 i = nI (obs a w i) := by rw [q108, z1 i (by omega), if_neg (by omega)]
    have hoi := hob i
    rw [e108, show (0 : Int32) = nI 0 from rfl, nI_eq (by omega) (by decide)]
    refine ⟨fun q => ?_, fun q => ⟨pk_in i 8 (by omega), ?_⟩⟩
    · rintro _ rfl
      rw [nI_1]
      refine ih (i + 1) h3 (by omega) f3 (fun p hp => ?_) q2 q3
      by_cases e : p = i
      · subst e
        rw [if_pos (by omega), e108]
        unfold wys
        rw [if_neg q]
      · rw [q108, z1 p hp]
        by_cases e2 : p < i
        · rw [if_pos e2, if_pos (by omega)]
        · rw [if_neg e2, if_neg (by omega)]
    · rintro _ rfl _ rfl
      rw [nI_1, z_1 (16 + i) (by omega)]
      refine ih (i + 1) _ (by omega) (frW rfl f3) (fun p hp => ?_) (fun r hr => ?_) (fun p hp => ?_)
      · by_cases e : p = i
        · subst e
          rw [if_pos (by omega), sI_s]
          unfold wys
          rw [if_pos q]
        · rw [sI_k e, q108, z1 p hp]
          by_cases e2 : p < i
          · rw [if_pos e2, if_pos (by omega)]
          · rw [if_neg e2, if_neg (by omega)]
      · rw [sI_o (by decide), sI_o (by decide), sI_o (by decide)]
        exact q2 r hr
      · rw [sI_o (by decide), sI_o (by decide), sI_o (by decide)]
        exact q3 p hp
/-- THE WAYS -/
theorem s_laysWays {h : Hp} {Q : Hp → Prop} {a : Row} {w : Nat} (hL : LandOK a) (h99 : ∀ j, gI h 99 j = a j) (hw : a 61 = nI w) (k : ∀ h1, Fr oW h h1 → WaysM h1 a w → Q h1) : M_laysWays h Q := by
  refine ⟨9, lw_L2 (fun h1 f1 z1 => ⟨nR a + 1, ?_⟩) 8 0 h rfl (Fr.rf _ _) (fun p hp => absurd hp (by omega))⟩
  refine lw_L23 hL (fun j => (f1.1 99 j rfl).trans (h99 j)) hw (fun h2 f2 z2 => ⟨nP a + 1, ?_⟩) (nR a) 0 h1 (by omega) (Fr.rf _ _) ⟨fun p hp => z1 p hp, fun r hr => absurd hr (by omega)⟩
  exact lw_L118 hL (fun j => (f2.1 99 j rfl).trans ((f1.1 99 j rfl).trans (h99 j))) (fun h3 f3 z3 => k h3 ((f1.tr f2).tr f3) z3) (nP a) 0 h2 (by omega) (Fr.rf _ _) (fun p hp => by rw [if_neg (by omega)]; exact z2.1 p hp) z2.2 (fun p hp => absurd hp (by omega))
