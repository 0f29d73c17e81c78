/-! onRing -/
theorem ring_pl {a : Row} {w : Nat} (O : LandOK a) {X : Nat → Nat} (hX : XOK a w X) {R : Rg} (hR : R ∈ rings (ttA a) (pIA a w) (fun p => bl (X p)) (nP a)) : ∃ q, q < nP a ∧ R.2.1.testBit q = true := by
  obtain ⟨p, hp, hm⟩ := (mem_rings (ttA a) (pIA a w)).mp hR
  exact ⟨p, hp, (rgs_sub (ttA a) (pIA a w) hm).2 p Nat.testBit_two_pow_self⟩
noncomputable def onN (l : List Rg) (b : Int) (P : Nat) : Nat := bset (fun q => @decide (∃ R, R ∈ l ∧ R.2.1.testBit q = true ∧ mR R = b) (Classical.propDecidable _)) P
theorem onN_tb {l : List Rg} {b : Int} {P q : Nat} : (onN l b P).testBit q = true ↔ q < P ∧ ∃ R, R ∈ l ∧ R.2.1.testBit q = true ∧ mR R = b := by
  unfold onN
  rw [bset_tb, Bool.and_eq_true, decide_eq_true_iff]
  exact and_congr Iff.rfl (@decide_eq_true_iff _ (Classical.propDecidable _))
def BestR (who : Nat) (l : List Rg) (b : Int) : Prop := (∃ R, R ∈ l ∧ mR R = b) ∧ ∀ R, R ∈ l → if who = 1 then b ≤ mR R else mR R ≤ b
theorem BestR_ex (who : Nat) {l : List Rg} (h : ∃ R, R ∈ l) : ∃ b, BestR who l b := by
  obtain ⟨R0, h0⟩ := h
  by_cases c : who = 1
  · obtain ⟨R, h1, _, h2⟩ := list_mn mR (fun _ => True) l ⟨R0, h0, trivial⟩
    exact ⟨mR R, ⟨R, h1, rfl⟩, fun T hT => by rw [if_pos c]; exact h2 T hT trivial⟩
  · obtain ⟨R, h1, _, h2⟩ := list_mn (fun R => -(mR R)) (fun _ => True) l ⟨R0, h0, trivial⟩
    exact ⟨mR R, ⟨R, h1, rfl⟩, fun T hT => by rw [if_neg c]; have := h2 T hT trivial; omega⟩
/-- the places where the row o has the value x -/
theorem c_equal {h : Hp} {Q : Int32 → Hp → Prop} {a : Row} {o : Nat} {x : Int32} {f : Nat → Prop} (O : LandOK a) (L : Lnd h a) (r : gR h 2 = some 14) (ho : alen o = 8) (hf : ∀ q, q < nP a → (gI h o q = x ↔ f q)) (k : ∀ s, s < 2 ^ nP a → (∀ q, s.testBit q = true ↔ q < nP a ∧ f q) → Q (nI s) h) : Survey_placesEqual o x h Q := by
  have h8 := O.1.2.1
  unfold Survey_placesEqual
  refine pk_loop (σ := Nat) (fun n i s => Survey_placesEqual_L5 o x Q n (nI s) (nI i) h) (fun i s => s < 2 ^ nP a ∧ ∀ q, s.testBit q = true ↔ q < i ∧ f q) (nP a) 0 0 (by omega) ⟨Nat.two_pow_pos _, fun q => ⟨fun b => (by rw [Nat.zero_testBit] at b; cases b), fun b => absurd b.1 (by omega)⟩⟩ (fun n s J => ?_) (fun n i s hi J hk => ?_)
  · unfold Survey_placesEqual_L5
    exact c_places O L r (pk_le (nP a) (nP a) (fun _ => k s J.1 J.2) (fun c => absurd c (by omega)))
  · unfold Survey_placesEqual_L5
    rw [ho]
    refine c_places O L r (pk_le (nP a) i (fun c => absurd c (by omega)) (fun _ => pk_le 8 i (fun c => absurd c (by omega)) (fun _ => ⟨pk_in i 8 (by omega), ?_⟩)))
    rintro J36 rfl
    rw [cl i, hf i hi]
    refine ⟨fun c => ?_, fun c => ?_⟩
    · rintro _ rfl
      rw [nI_1 i]
      refine hk s ⟨J.1, fun q => ?_⟩
      rw [J.2]
      constructor
      · rintro ⟨h1, h2⟩; exact ⟨by omega, h2⟩
      · rintro ⟨h1, h2⟩
        have : q ≠ i := fun e => c (e ▸ h2)
        exact ⟨by omega, h2⟩
    · rw [z_1 i (by omega), z_or]
      rintro _ rfl _ rfl
      rw [nI_1 i]
      refine hk _ ⟨or_lt8 J.1 hi, fun q => ?_⟩
      rw [or_tb, Bool.or_eq_true, J.2, decide_eq_true_iff]
      constructor
      · rintro (⟨h1, h2⟩ | rfl)
        · exact ⟨by omega, h2⟩
        · exact ⟨by omega, c⟩
      · rintro ⟨h1, h2⟩
        by_cases e : i = q
        · exact Or.inr e
        · exact Or.inl ⟨by omega, h2⟩
theorem bits_eq {s t P : Nat} (h : ∀ q, s.testBit q = true ↔ t.testBit q = true) : s = t := by
  apply Nat.eq_of_testBit_eq
  intro q
  rw [Bool.eq_iff_iff]; exact h q
theorem mR_b {a : Row} {w : Nat} {X : Nat → Nat} (O : LandOK a) (hX : XOK a w X) {R : Rg} (hR : R ∈ rings (ttA a) (pIA a w) (fun p => bl (X p)) (nP a)) : -83160 ≤ mR R ∧ mR R ≤ 83160 := by
  obtain ⟨b1, b2, b3, _⟩ := rings_ok (ttA a) (pIA a w) (GW_X O hX) hR
  refine ⟨le_mR b1 b2 ?_, mR_le b1 b2 ?_⟩ <;> omega
theorem c_onLeast {h : Hp} {Q : Int32 → Hp → Prop} {a : Row} {w : Nat} {X : Nat → Nat} {b : Int} (O : LandOK a) (hX : XOK a w X) (V : SV a w X h) (N : NT (rings (ttA a) (pIA a w) (fun p => bl (X p)) (nP a)) h) (hb : BestR 1 (rings (ttA a) (pIA a w) (fun p => bl (X p)) (nP a)) b) (k : Q (nI (onN (rings (ttA a) (pIA a w) (fun p => bl (X p)) (nP a)) b (nP a))) h) : Survey_placesOnLeast h Q := by
  have h8 := O.1.2.1
  obtain ⟨⟨R0, hR0, e0⟩, lo⟩ := hb
  obtain ⟨q0, hq0, hb0⟩ := ring_pl O hX hR0
  have mb := mR_b O hX hR0
  unfold Survey_placesOnLeast
  refine pk_loop (σ := Int32) (fun n i v => Survey_placesOnLeast_L5 Q n v (nI i) h) (fun i v => b ≤ v.toInt ∧ ∀ q, q < i → v.toInt ≤ (gI h 76 q).toInt) (nP a) 0 2147483647 (by omega) ⟨by rw [← e0]; show mR R0 ≤ 2147483647; omega, fun q hq => absurd hq (by omega)⟩ (fun n v J => ?_) (fun n i v hi J hk => ?_)
  · have vb : v.toInt = b := by
      have h1 := J.2 q0 hq0
      have h2 := (N.2 q0 (by omega)).1.1 R0 hR0 hb0
      have := J.1
      omega
    unfold Survey_placesOnLeast_L5
    refine c_places O V.1 V.2.1 (pk_le (nP a) (nP a) (fun _ => c_equal (f := fun q => ∃ R, R ∈ rings (ttA a) (pIA a w) (fun p => bl (X p)) (nP a) ∧ R.2.1.testBit q = true ∧ mR R = b) O V.1 V.2.1 rfl (fun q hq => ?_) (fun s sl hs => ?_)) (fun c => absurd c (by omega)))
    · obtain ⟨n1, n2⟩ := (N.2 q (by omega)).1
      rw [i_eq, vb]
      constructor
      · intro e
        rcases n2 with z | ⟨R, r1, r2, r3⟩
        · omega
        · exact ⟨R, r1, r2, r3.trans e⟩
      · rintro ⟨R, r1, r2, r3⟩
        have a1 := n1 R r1 r2
        rcases n2 with z | ⟨R', t1, t2, t3⟩
        · have := mR_b O hX r1; omega
        · have := lo R' t1; rw [if_pos rfl] at this; omega
    · rw [bits_eq (P := 0) (s := s) (t := onN (rings (ttA a) (pIA a w) (fun p => bl (X p)) (nP a)) b (nP a)) (fun q => by rw [hs, onN_tb])]
      exact k
  · unfold Survey_placesOnLeast_L5
    refine c_places O V.1 V.2.1 (pk_le (nP a) i (fun c => absurd c (by omega)) (fun _ => ⟨pk_in i 8 (by omega), ?_⟩))
    rw [cl i]
    have bi : b ≤ (gI h 76 i).toInt := by
      rcases (N.2 i (by omega)).1.2 with z | ⟨R', t1, t2, t3⟩
      · rw [z, ← e0]; omega
      · have := lo R' t1; rw [if_pos rfl] at this; omega
    unfold J9_min_7cf53
    rw [i_lt]
    refine ⟨fun c => ?_, fun c => ?_⟩
    · rintro _ rfl
      rw [nI_1 i]
      refine hk _ ⟨bi, fun q hq => ?_⟩
      by_cases e : q = i
      · subst e; exact Int.le_refl _
      · have := J.2 q (by omega); omega
    · rintro _ rfl
      rw [nI_1 i]
      refine hk _ ⟨J.1, fun q hq => ?_⟩
      by_cases e : q = i
      · subst e; omega
      · exact J.2 q (by omega)
theorem c_onGreatest {h : Hp} {Q : Int32 → Hp → Prop} {a : Row} {w : Nat} {X : Nat → Nat} {b : Int} (O : LandOK a) (hX : XOK a w X) (V : SV a w X h) (N : NT (rings (ttA a) (pIA a w) (fun p => bl (X p)) (nP a)) h) (hb : BestR 0 (rings (ttA a) (pIA a w) (fun p => bl (X p)) (nP a)) b) (k : Q (nI (onN (rings (ttA a) (pIA a w) (fun p => bl (X p)) (nP a)) b (nP a))) h) : Survey_placesOnGreatest h Q := by
  have h8 := O.1.2.1
  obtain ⟨⟨R0, hR0, e0⟩, lo⟩ := hb
  obtain ⟨q0, hq0, hb0⟩ := ring_pl O hX hR0
  have mb := mR_b O hX hR0
  unfold Survey_placesOnGreatest
  refine pk_loop (σ := Int32) (fun n i v => Survey_placesOnGreatest_L5 Q n v (nI i) h) (fun i v => v.toInt ≤ b ∧ ∀ q, q < i → (gI h 77 q).toInt ≤ v.toInt) (nP a) 0 (-2147483648) (by omega) ⟨by rw [← e0]; show -2147483648 ≤ mR R0; omega, fun q hq => absurd hq (by omega)⟩ (fun n v J => ?_) (fun n i v hi J hk => ?_)
  · have vb : v.toInt = b := by
      have h1 := J.2 q0 hq0
      have h2 := (N.2 q0 (by omega)).2.1 R0 hR0 hb0
      have := J.1
      omega
    unfold Survey_placesOnGreatest_L5
    refine c_places O V.1 V.2.1 (pk_le (nP a) (nP a) (fun _ => c_equal (f := fun q => ∃ R, R ∈ rings (ttA a) (pIA a w) (fun p => bl (X p)) (nP a) ∧ R.2.1.testBit q = true ∧ mR R = b) O V.1 V.2.1 rfl (fun q hq => ?_) (fun s sl hs => ?_)) (fun c => absurd c (by omega)))
    · obtain ⟨n1, n2⟩ := (N.2 q (by omega)).2
      rw [i_eq, vb]
      constructor
      · intro e
        rcases n2 with z | ⟨R, r1, r2, r3⟩
        · omega
        · exact ⟨R, r1, r2, r3.trans e⟩
      · rintro ⟨R, r1, r2, r3⟩
        have a1 := n1 R r1 r2
        rcases n2 with z | ⟨R', t1, t2, t3⟩
        · have := mR_b O hX r1; omega
        · have := lo R' t1; rw [if_neg (by decide)] at this; omega
    · rw [bits_eq (P := 0) (s := s) (t := onN (rings (ttA a) (pIA a w) (fun p => bl (X p)) (nP a)) b (nP a)) (fun q => by rw [hs, onN_tb])]
      exact k
  · unfold Survey_placesOnGreatest_L5
    refine c_places O V.1 V.2.1 (pk_le (nP a) i (fun c => absurd c (by omega)) (fun _ => ⟨pk_in i 8 (by omega), ?_⟩))
    rw [cl i]
    have bi : (gI h 77 i).toInt ≤ b := by
      rcases (N.2 i (by omega)).2.2 with z | ⟨R', t1, t2, t3⟩
      · rw [z, ← e0]; omega
      · have := lo R' t1; rw [if_neg (by decide)] at this; omega
    unfold J9_max_7cf53
    rw [i_lt]
    refine ⟨fun c => ?_, fun c => ?_⟩
    · rintro _ rfl
      rw [nI_1 i]
      refine hk _ ⟨bi, fun q hq => ?_⟩
      by_cases e : q = i
      · subst e; exact Int.le_refl _
      · have := J.2 q (by omega); omega
    · rintro _ rfl
      rw [nI_1 i]
      refine hk _ ⟨J.1, fun q hq => ?_⟩
      by_cases e : q = i
      · subst e; omega
      · exact J.2 q (by omega)
theorem m_onL {h : Hp} {Q : Int32 → Hp → Prop} {l : List Rg} {P j : Nat} {R : Rg} {b : Int} (rg : RgM h l) (ok : RgOK l) (hj : l[j]? = some R) (hb : mR R = b) (hP : P ≤ 8) (lt : ∀ R, R ∈ l → R.2.1 < 2 ^ P) (k : Q (nI (onN l b P)) h) : ∃ n20, M_onRing_L56 (nI j) Q n20 0 0 h := by
  have ln := ok.1
  refine pk_loop (σ := Nat) (fun n i s => M_onRing_L56 (nI j) Q n (nI s) (nI i) h) (fun i s => ∀ q, s.testBit q = true ↔ ∃ i' T, i' < i ∧ l[i']? = some T ∧ T.2.1.testBit q = true ∧ mR T = b) l.length 0 0 (by omega) (fun q => ⟨fun b => (by rw [Nat.zero_testBit] at b; cases b), fun ⟨i', T, h1, _⟩ => absurd h1 (by omega)⟩) (fun n s J => ?_) (fun n i s hi J hk => ?_)
  · unfold M_onRing_L56
    rw [rg.1]
    refine pk_le l.length l.length (fun _ => ?_) (fun c => absurd c (by omega))
    rw [bits_eq (P := 0) (s := s) (t := onN l b P) (fun q => ?_)]
    · exact k
    · rw [J, onN_tb]
      constructor
      · rintro ⟨i', T, h1, h2, h3, h4⟩
        have Tm : T ∈ l := by
          obtain ⟨a1, a2⟩ := List.getElem?_eq_some_iff.mp h2
          exact a2 ▸ List.getElem_mem a1
        refine ⟨?_, T, Tm, h3, h4⟩
        rcases Nat.lt_or_ge q P with c | c
        · exact c
        · rw [Nat.testBit_lt_two_pow (Nat.lt_of_lt_of_le (lt T Tm) (Nat.pow_le_pow_right (by decide) c))] at h3; cases h3
      · rintro ⟨_, T, h1, h2, h3⟩
        obtain ⟨i', hi', hg⟩ := List.mem_iff_getElem.mp h1
        exact ⟨i', T, hi', List.getElem?_eq_some_iff.mpr ⟨hi', hg⟩, h2, h3⟩
  · obtain ⟨T, hT⟩ : ∃ T, l[i]? = some T := ⟨l[i], List.getElem?_eq_some_iff.mpr ⟨hi, rfl⟩⟩
    unfold M_onRing_L56
    rw [rg.1]
    have no : ¬ mR T = b → ∀ v15 : Int32, v15 = (nI s ||| 0) → ∀ v16 : Int32, v16 = (nI i + 1) → M_onRing_L56 (nI j) Q n v15 v16 h := by
      rintro c _ rfl _ rfl
      rw [nI_1 i, show nI s ||| (0 : Int32) = nI s by rw [show (0 : Int32) = nI 0 from rfl, z_or, Nat.or_zero]]
      refine hk s (fun q => ?_)
      rw [J]
      constructor
      · rintro ⟨i', T', h1, h2⟩; exact ⟨i', T', by omega, h2⟩
      · rintro ⟨i', T', h1, h2, h3, h4⟩
        have : i' ≠ i := fun e => by
          subst e; rw [hT] at h2; cases h2; exact c h4
        exact ⟨i', T', by omega, h2, h3, h4⟩
    refine pk_le l.length i (fun c => absurd c (by omega)) (fun _ => m_isLess rg ok hT hj (fun c => ?_) (fun c => ?_))
    · rintro J97 rfl J86 rfl
      exact brF' (by decide) (no (by omega))
    · rintro J97 rfl J86 rfl
      refine brT' rfl (m_isLess rg ok hj hT (fun c2 => brF (by decide) (no (by omega))) (fun c2 => brT rfl ⟨pk_in i 1024 (by omega), ?_⟩))
      rw [cl i, (rg.2 i T hT).2.1]
      rintro _ rfl _ rfl
      rw [nI_1 i, z_or]
      refine hk _ (fun q => ?_)
      rw [Nat.testBit_or, Bool.or_eq_true, J]
      constructor
      · rintro (⟨i', T', h1, h2⟩ | h3)
        · exact ⟨i', T', by omega, h2⟩
        · exact ⟨i, T, by omega, hT, h3, by omega⟩
      · rintro ⟨i', T', h1, h2, h3, h4⟩
        by_cases e : i' = i
        · subst e; rw [hT] at h2; cases h2; exact Or.inr h3
        · exact Or.inl ⟨i', T', by omega, h2, h3, h4⟩
theorem sim_onRing {B : Int} {x : Int32} : Sim B B (C_onRing x) (M_onRing x) := by
  intro h K I k
  obtain ⟨O, L⟩ : iLand h := I.1
  have h8 := O.1.2.1
  obtain ⟨w, t, hw, ht, ew, et, e0, e3⟩ := rowsAll I
  by_cases hx : x = 0 ∨ x = 1
  · obtain ⟨who, hwho⟩ : ∃ who : Nat, (who = 1 ∧ x = 0) ∨ (who = 0 ∧ x = 1) := hx.elim (fun e => ⟨1, Or.inl ⟨rfl, e⟩⟩) (fun e => ⟨0, Or.inr ⟨rfl, e⟩⟩)
    have ex : ∃ R, R ∈ rings (ttA (rowM h)) (pIA (rowM h) w) (wlA (rowM h) w) (nP (rowM h)) := by
      obtain ⟨R, q, h1, _⟩ := ring_ex (ttA (rowM h)) (pIA (rowM h) w) (GW_A O w) (show 0 < nP (rowM h) from O.1.1)
      exact ⟨R, h1⟩
    obtain ⟨b, hb⟩ := BestR_ex who ex
    refine sim_q I k (nI (onN (rings (ttA (rowM h)) (pIA (rowM h) w) (wlA (rowM h) w) (nP (rowM h))) b (nP (rowM h)))) (fun Q hQ => ?_) (fun h1 Q I1 eR f1 hQ => ?_)
    · unfold C_onRing
      refine c_either (fun _ => brF' (by decide) (c_lookAtAll L O hw e3 (fun h1 f1 V1 K1 => ?_))) (fun q => absurd hx q)
      rcases hwho with ⟨rfl, rfl⟩ | ⟨rfl, rfl⟩
      · exact brT' rfl (c_onLeast O (XOK_w O w) V1 K1.1 hb (hQ h1 f1))
      · exact brF' (by decide) (c_onGreatest O (XOK_w O w) V1 K1.1 hb (hQ h1 f1))
    · unfold M_onRing
      rintro _ rfl
      refine m_either (fun _ => brF' (by decide) ?_) (fun q => absurd hx q)
      refine m_laysRings (a := rowM h) O (fun j => by rw [sI_o (by decide)]; exact f1.1 99 j rfl) ew (fun h2 f2 g2 z2 r2 => ?_)
      refine m_allW2 O (g2 1) z2 (fun U hU => ?_)
      rintro J47 rfl
      rw [g2, O.1.2.2]
      have eP : ((1 : Int32) <<< (nI (nP (rowM h)) &&& 31)) - 1 = nI (2 ^ nP (rowM h) - 1) := by
        rw [z_1 _ (by omega)]; exact pk_sub (Nat.two_pow_pos _)
      rw [eP]
      have mt : ∀ R, R ∈ rings (ttA (rowM h)) (pIA (rowM h) w) (wlA (rowM h) w) (nP (rowM h)) → ¬ R.2.1 &&& (2 ^ nP (rowM h) - 1) = 0 := fun R hR e => by
        obtain ⟨q, hq, hb⟩ := ring_pl O (XOK_w O w) hR
        have : (R.2.1 &&& (2 ^ nP (rowM h) - 1)).testBit q = true := by
          rw [Nat.testBit_and, hb, Nat.testBit_two_pow_sub_one, decide_eq_true hq]; rfl
        rw [e, Nat.zero_testBit] at this; cases this
      have al : ∀ R, R ∈ rings (ttA (rowM h)) (pIA (rowM h) w) (wlA (rowM h) w) (nP (rowM h)) → wIn U R = true := fun R hR => by
        have e := rings_U O (XOK_w O w) hU
        have : R ∈ (rings (ttA (rowM h)) (pIA (rowM h) w) (wlA (rowM h) w) (nP (rowM h))).filter (wIn U) := by rw [← e]; exact hR
        exact (List.mem_filter.mp this).2
      have l8 : 2 ^ nP (rowM h) - 1 < 2 ^ 8 := by
        have := Nat.pow_le_pow_right (n := 2) (by decide) h8
        have := Nat.two_pow_pos (nP (rowM h))
        omega
      have fin : ∀ s : Int32, (who = 1 ∧ s = 0) ∨ (who = 0 ∧ s = 1) → M_ringBy (nI (2 ^ nP (rowM h) - 1)) (nI U) s h2 (fun r9 h10 => ∃ n20, M_onRing_L56 r9 Q n20 0 0 h10) := fun s hs => by
        obtain ⟨R0, hR0⟩ := ex
        refine m_ringBy r2 (RgOK_A O w) l8 hs ⟨R0, hR0, al R0 hR0, mt R0 hR0⟩ (fun j R hj s1 s2 best => m_onL r2 (RgOK_A O w) hj ?_ h8 (fun T hT => (rings_ok (ttA (rowM h)) (pIA (rowM h) w) (GW_A O w) hT).2.2.2.1) (hQ h2 (FpThr.tr f2)))
        have Rm : R ∈ rings (ttA (rowM h)) (pIA (rowM h) w) (wlA (rowM h) w) (nP (rowM h)) := by
          obtain ⟨a1, a2⟩ := List.getElem?_eq_some_iff.mp hj
          exact a2 ▸ List.getElem_mem a1
        obtain ⟨⟨Rb, hRb, eb⟩, lo⟩ := hb
        have b1 := best Rb hRb (al Rb hRb) (mt Rb hRb)
        have b2 := lo R Rm
        by_cases c : who = 1
        · rw [if_pos c] at b1 b2; omega
        · rw [if_neg c] at b1 b2; omega
      rcases hwho with ⟨rfl, rfl⟩ | ⟨rfl, rfl⟩
      · exact brF' (by decide) (fin 0 (Or.inl ⟨rfl, rfl⟩))
      · exact brT' rfl (fin 1 (Or.inr ⟨rfl, rfl⟩))
  · refine sim_q I k (-2) (fun Q hQ => ?_) (fun h1 Q I1 eR f1 hQ => ?_)
    · unfold C_onRing
      exact c_either (fun q => absurd q hx) (fun _ => brT' rfl (hQ h (Fp.rf _ h)))
    · unfold M_onRing
      rintro _ rfl
      exact m_either (fun q => absurd q hx) (fun _ => brT' rfl (hQ _ FpThr))
