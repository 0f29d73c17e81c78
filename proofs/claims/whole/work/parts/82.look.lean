/-! the class's survey: all of it -/
def oLk : Nat → Nat → Bool := fun o k => (o == 73 && (k == 2 || k == 9)) || (decide (75 ≤ o) && decide (o ≤ 79))
theorem oLk_V (o k : Nat) (h : oLk o k = false) : oV o k = false := by
  simp only [oLk, Bool.or_eq_false_iff, Bool.and_eq_false_iff, beq_eq_false_iff_ne, decide_eq_false_iff_not] at h
  simp only [oV, Bool.or_eq_false_iff, Bool.and_eq_false_iff, beq_eq_false_iff_ne]; omega
theorem oLk_S (o k : Nat) (h : (14 ≤ o ∧ o ≤ 19) ∨ (o = 73 ∧ k = 1) ∨ o = 74) : oLk o k = false := by
  simp only [oLk, Bool.or_eq_false_iff, Bool.and_eq_false_iff, beq_eq_false_iff_ne, decide_eq_false_iff_not]; omega
theorem oLk_1 {x : Nat} (hx : 75 ≤ x ∧ x ≤ 79) (o k : Nat) (h : oLk o k = false) : (o == x) = false := by
  simp only [oLk, Bool.or_eq_false_iff, Bool.and_eq_false_iff, beq_eq_false_iff_ne, decide_eq_false_iff_not] at h
  rw [beq_eq_false_iff_ne]; omega
theorem c_places {h : Hp} {Q : Int32 → Hp → Prop} {a : Row} (O : LandOK a) (L : Lnd h a) (r : gR h 2 = some 14) (k : Q (nI (nP a)) h) : Survey_placeCount h Q := by
  unfold Survey_placeCount
  refine ⟨fun e => by rw [r] at e; (cases e), fun _ _ => ⟨r, ?_⟩⟩
  rw [L.1, O.1.2.2]
  unfold J9_min_7cf53
  have h8 := O.1.2.1
  refine pk_lt 8 (nP a) (fun c => absurd c (by omega)) (fun _ => k)
theorem c_roots {a : Row} {w : Nat} {X : Nat → Nat} (O : LandOK a) (hw : w < 10) (hX : XOK a w X) {h0 : Hp} {K : Hp → Prop} (V0 : SV a w X h0) (N0 : NT [] h0) (M0 : RM h0 (fun _ => 0)) (k : ∀ h1 m', Fq oLk h0 h1 → NT (rings (ttA a) (pIA a w) (fun p => bl (X p)) (nP a)) h1 → RM h1 m' → (∀ p q, (m' p).testBit q = true ↔ (p < nP a ∧ ∃ e, e ∈ bl (X p) ∧ ttA a e = q)) → K h1) : ∃ n10, Survey_look_L38 (nI (nP a)) K n10 0 h0 := by
  have h8 := O.1.2.1
  refine pk_loop (σ := Hp) (fun n i h => Survey_look_L38 (nI (nP a)) K n (nI i) h) (fun i h => Fq oLk h0 h ∧ NT ((List.range i).flatMap (fun p => rgs (ttA a) (pIA a w) (fun p => bl (X p)) p 9 p 0 (2 ^ p) 0 0)) h ∧ ∃ m', RM h m' ∧ Gr a X (fun _ => 0) m' ∧ ∀ p, p < i → ∀ e, e ∈ bl (X p) → (m' p).testBit (ttA a e) = true) (nP a) 0 h0 (by omega) ⟨Fq.rf _ _, N0, _, M0, Gr.rf _ _ _, fun p hp => absurd hp (by omega)⟩ (fun n h1 J => ?_) (fun n i h hi J hk => ?_)
  · obtain ⟨F, N, m', M, G, C⟩ := J
    unfold Survey_look_L38
    refine pk_le (nP a) (nP a) (fun _ => k h1 m' F N M (fun p q => ⟨fun b => ?_, fun ⟨hp, e, he, et⟩ => ?_⟩)) (fun c => absurd c (by omega))
    · refine (G.2 p q b).resolve_left (fun z => ?_)
      have z : Nat.testBit 0 q = true := z
      rw [Nat.zero_testBit] at z; cases z
    · rw [← et]; exact C p hp e he
  · obtain ⟨F, N, m', M, G, C⟩ := J
    unfold Survey_look_L38
    refine pk_le (nP a) i (fun c => absurd c (by omega)) (fun _ => ?_)
    rintro _ rfl
    have Fs : Fq oLk h0 (sI h 73 2 (nI i)) := Fq.sI F rfl
    rw [z_1 i (by omega)]
    have := c_walk (fst := i) O hw hX 9 0 i (2 ^ i) 0 0 (sI h 73 2 (nI i)) _ m' (fun h8 => ∀ v9 : Int32, v9 = (nI i + 1) → Survey_look_L38 (nI (nP a)) K n v9 h8) rfl hi (Nat.pow_lt_pow_right (by decide) hi) (by rw [cn8_1 i (by omega)]; omega) ⟨by omega, by omega⟩ (SV_k V0 Fs oLk_S) (by rw [sI_s]) hi ⟨by rw [sI_k (by decide)]; exact N.1, fun q hq => by rw [sI_o (by decide), sI_o (by decide)]; exact N.2 q hq⟩ (fun p hp => by rw [sI_o (by decide)]; exact M p hp) (fun h2 m2 F2 N2 M2 G2 C2 => ?_)
    · exact this
    · rintro _ rfl
      rw [nI_1 i]
      refine hk h2 ⟨Fs.tr (F2.mo oLk_V), ?_, m2, M2, G.tr G2, fun p hp e he => ?_⟩
      · rw [List.range_succ, List.flatMap_append, List.flatMap_cons, List.flatMap_nil, List.append_nil]; exact N2
      · by_cases c : p = i
        · subst c; exact C2 e he
        · exact G2.1 _ _ (C p (by omega) e he)
/-! who comes where -/
def Wc (P k : Nat) (r : Nat → Nat) : Prop := ∀ p q j, j < k → p < P → j < P → (r p).testBit j = true → (r j).testBit q = true → (r p).testBit q = true
def stW (k : Nat) (r : Nat → Nat) (p : Nat) : Nat := if (r p).testBit k = true then r p ||| r k else r p
theorem stW_tb {k : Nat} {r : Nat → Nat} {p q : Nat} : (stW k r p).testBit q = true ↔ (r p).testBit q = true ∨ ((r p).testBit k = true ∧ (r k).testBit q = true) := by
  unfold stW
  by_cases c : (r p).testBit k = true
  · rw [if_pos c, Nat.testBit_or, Bool.or_eq_true]; exact ⟨fun h => h.imp id (fun z => ⟨c, z⟩), fun h => h.imp id (fun z => z.2)⟩
  · rw [if_neg c]; exact ⟨Or.inl, fun h => h.resolve_right (fun z => c z.1)⟩
theorem stW_k (k : Nat) (r : Nat → Nat) : stW k r k = r k := by
  apply Nat.eq_of_testBit_eq
  intro q
  rw [Bool.eq_iff_iff, stW_tb]
  exact ⟨fun h => h.elim id (fun z => z.2), Or.inl⟩
theorem Wc_s {P k : Nat} {r : Nat → Nat} (hk : k < P) (W : Wc P k r) : Wc P (k + 1) (stW k r) := by
  intro p q j hj hp hjP h1 h2
  rw [stW_tb] at h1 h2 ⊢
  by_cases c : j = k
  · subst c
    have a1 : (r p).testBit j = true := h1.elim id (fun z => z.1)
    have a2 : (r j).testBit q = true := h2.elim id (fun z => z.2)
    exact Or.inr ⟨a1, a2⟩
  · have hj : j < k := by omega
    rcases h1 with h1 | ⟨h1, h1'⟩
    · rcases h2 with h2 | ⟨h2, h2'⟩
      · exact Or.inl (W p q j hj hp hjP h1 h2)
      · exact Or.inr ⟨W p k j hj hp hjP h1 h2, h2'⟩
    · rcases h2 with h2 | ⟨h2, h2'⟩
      · exact Or.inr ⟨h1, W k q j hj hk hjP h1' h2⟩
      · exact Or.inr ⟨h1, h2'⟩
def o75 : Nat → Nat → Bool := fun o _ => o == 75
theorem c_reachIn {P by' : Nat} {h0 : Hp} {K : Hp → Prop} {r : Nat → Nat} (hP : P ≤ 8) (hb : by' < P) (hr : ∀ p, p < 8 → r p < 2 ^ 8) (M0 : RM h0 r) (k : ∀ h1, Fq o75 h0 h1 → RM h1 (fun p => if p < P then stW by' r p else r p) → K h1) : ∃ n8, Survey_reachAll_L34 (nI P) (nI by') K n8 0 h0 := by
  refine pk_loop (σ := Hp) (fun n i h => Survey_reachAll_L34 (nI P) (nI by') K n (nI i) h) (fun i h => Fq o75 h0 h ∧ ∀ p, p < 8 → gI h 75 p = nI (if p < i then stW by' r p else r p)) P 0 h0 (by omega) ⟨Fq.rf _ _, fun p hp => by rw [if_neg (by omega)]; exact M0 p hp⟩ (fun n h1 J => ?_) (fun n i h hi J hk => ?_)
  · unfold Survey_reachAll_L34
    exact pk_le P P (fun _ => k h1 J.1 J.2) (fun c => absurd c (by omega))
  · obtain ⟨F, M⟩ := J
    have ri := hr i (by omega)
    have ei : gI h 75 i = nI (r i) := by
      have := M i (by omega)
      rw [if_neg (by omega)] at this; exact this
    have eb : gI h 75 by' = nI (r by') := by
      have := M by' (by omega)
      by_cases c : by' < i
      · rw [if_pos c, stW_k] at this; exact this
      · rw [if_neg c] at this; exact this
    unfold Survey_reachAll_L34
    refine pk_le P i (fun c => absurd c (by omega)) (fun _ => ⟨pk_in i 8 (by omega), ?_⟩)
    rintro J68 rfl
    rw [cl i, cl by', ei, z_bit (by omega) (by omega)]
    refine ⟨fun c => ?_, fun c => ⟨pk_in i 8 (by omega), pk_in by' 8 (by omega), pk_in i 8 (by omega), ?_⟩⟩
    · rintro _ rfl
      rw [nI_1 i]
      refine hk h ⟨F, fun p hp => ?_⟩
      by_cases d : p = i
      · subst d; rw [if_pos (by omega), ei]; unfold stW; rw [if_neg c]
      · have := M p hp
        by_cases d2 : p < i
        · rw [if_pos d2] at this; rw [if_pos (by omega)]; exact this
        · rw [if_neg d2] at this; rw [if_neg (by omega)]; exact this
    · rw [eb, z_or]
      rintro _ rfl _ rfl
      rw [nI_1 i]
      refine hk _ ⟨Fq.sI F rfl, fun p hp => ?_⟩
      by_cases d : p = i
      · subst d; rw [if_pos (by omega), sI_s]; unfold stW; rw [if_pos c]
      · rw [sI_k d]
        have := M p hp
        by_cases d2 : p < i
        · rw [if_pos d2] at this; rw [if_pos (by omega)]; exact this
        · rw [if_neg d2] at this; rw [if_neg (by omega)]; exact this
theorem stW_lt {k : Nat} {r : Nat → Nat} {p : Nat} (h1 : r p < 2 ^ 8) (h2 : r k < 2 ^ 8) : stW k r p < 2 ^ 8 := by
  unfold stW
  split
  · exact Nat.or_lt_two_pow h1 h2
  · exact h1
theorem c_reachAll {P : Nat} {h0 : Hp} {K : Hp → Prop} {m : Nat → Nat} {C : Nat → Nat → Prop} (hP : P ≤ 8) (M0 : RM h0 m) (m8 : ∀ p, p < 8 → m p < 2 ^ 8) (C0 : ∀ p q, p < P → (m p).testBit q = true → q < P ∧ C p q) (C1 : ∀ p, C p p) (C2 : ∀ p q r, C p q → C q r → C p r) (k : ∀ h1 r, Fq o75 h0 h1 → RM h1 r → (∀ p, p < P → r p < 2 ^ 8) → (∀ p q, p < P → (r p).testBit q = true → q < P ∧ C p q) → (∀ p, p < P → (r p).testBit p = true) → (∀ p q, p < P → (m p).testBit q = true → (r p).testBit q = true) → Wc P P r → K h1) : Survey_reachAll (nI P) h0 K := by
  unfold Survey_reachAll
  refine pk_loop (σ := Hp) (fun n i h => Survey_reachAll_L2 (nI P) _ n (nI i) h) (fun i h => Fq o75 h0 h ∧ ∀ p, p < 8 → gI h 75 p = nI (if p < i then m p ||| 2 ^ p else m p)) P 0 h0 (by omega) ⟨Fq.rf _ _, fun p hp => by rw [if_neg (by omega)]; exact M0 p hp⟩ (fun n h1 J => ?_) (fun n i h hi J hk => ?_)
  · unfold Survey_reachAll_L2
    refine pk_le P P (fun _ => ?_) (fun c => absurd c (by omega))
    obtain ⟨F1, M1⟩ := J
    obtain ⟨r0, hr0⟩ : ∃ r0 : Nat → Nat, (fun p => if p < P then m p ||| 2 ^ p else m p) = r0 := ⟨_, rfl⟩
    have M1 : RM h1 r0 := fun p hp => by rw [← hr0]; exact M1 p hp
    have r0y : ∀ p, p < P → r0 p = m p ||| 2 ^ p := fun p hp => by rw [← hr0]; exact if_pos hp
    have r0l : ∀ p, p < 8 → r0 p < 2 ^ 8 := fun p hp => by
      rw [← hr0]
      show (if p < P then m p ||| 2 ^ p else m p) < 2 ^ 8
      split
      · exact Nat.or_lt_two_pow (m8 p hp) (Nat.pow_lt_pow_right (by decide) hp)
      · exact m8 p hp
    refine pk_loop (σ := Hp) (fun n i h => Survey_reachAll_L27 (nI P) K n (nI i) h) (fun i h => Fq o75 h0 h ∧ ∃ r, RM h r ∧ (∀ p, p < 8 → r p < 2 ^ 8) ∧ (∀ p q, p < P → (r p).testBit q = true → q < P ∧ C p q) ∧ (∀ p, p < P → (r p).testBit p = true) ∧ (∀ p q, p < P → (m p).testBit q = true → (r p).testBit q = true) ∧ Wc P i r) P 0 h1 (by omega) ⟨F1, r0, M1, r0l, fun p q hp b => ?_, fun p hp => ?_, fun p q hp b => ?_, fun p q j hj => absurd hj (by omega)⟩ (fun n h2 J => ?_) (fun n i h hi J hk => ?_)
    · rw [r0y p hp, or_tb, Bool.or_eq_true, decide_eq_true_iff] at b
      rcases b with b | b
      · exact C0 p q hp b
      · subst b; exact ⟨hp, C1 p⟩
    · rw [r0y p hp, or_tb, decide_eq_true rfl, Bool.or_true]
    · rw [r0y p hp, or_tb, b]; rfl
    · obtain ⟨F, r, M, a1, a2, a3, a4, a5⟩ := J
      unfold Survey_reachAll_L27
      exact pk_le P P (fun _ => k h2 r F M (fun p hp => a1 p (by omega)) a2 a3 a4 a5) (fun c => absurd c (by omega))
    · obtain ⟨F, r, M, a1, a2, a3, a4, a5⟩ := J
      unfold Survey_reachAll_L27
      refine pk_le P i (fun c => absurd c (by omega)) (fun _ => c_reachIn hP hi a1 M (fun h2 F2 M2 => ?_))
      rintro _ rfl
      rw [nI_1 i]
      have up : ∀ p q, (r p).testBit q = true → (if p < P then stW i r p else r p).testBit q = true := fun p q b => by
        split
        · exact stW_tb.mpr (Or.inl b)
        · exact b
      refine hk h2 ⟨F.tr F2, _, M2, fun p hp => ?_, fun p q hp b => ?_, fun p hp => up p p (a3 p hp), fun p q hp b => up p q (a4 p q hp b), fun p q j hj hp hjP h1 h2 => ?_⟩
      · show (if p < P then stW i r p else r p) < 2 ^ 8
        split
        · exact stW_lt (a1 p hp) (a1 i (by omega))
        · exact a1 p hp
      · have b : (if p < P then stW i r p else r p).testBit q = true := b
        rw [if_pos hp, stW_tb] at b
        rcases b with b | ⟨b1, b2⟩
        · exact a2 p q hp b
        · obtain ⟨c1, c2⟩ := a2 p i hp b1
          obtain ⟨d1, d2⟩ := a2 i q hi b2
          exact ⟨d1, C2 _ _ _ c2 d2⟩
      · have h1 : (if p < P then stW i r p else r p).testBit j = true := h1
        have h2 : (if j < P then stW i r j else r j).testBit q = true := h2
        show (if p < P then stW i r p else r p).testBit q = true
        rw [if_pos hp] at h1 ⊢
        rw [if_pos hjP] at h2
        exact Wc_s hi a5 p q j hj hp hjP h1 h2
  · obtain ⟨F, M⟩ := J
    have ei : gI h 75 i = nI (m i) := by
      have := M i (by omega)
      rw [if_neg (by omega)] at this; exact this
    unfold Survey_reachAll_L2
    refine pk_le P i (fun c => absurd c (by omega)) (fun _ => ⟨pk_in i 8 (by omega), pk_in i 8 (by omega), ?_⟩)
    rw [cl i, ei, z_1 i (by omega), z_or]
    rintro _ rfl _ rfl
    rw [nI_1 i]
    refine hk _ ⟨Fq.sI F rfl, fun p hp => ?_⟩
    by_cases d : p = i
    · subst d; rw [if_pos (by omega), sI_s]
    · rw [sI_k d]
      have := M p hp
      by_cases d2 : p < i
      · rw [if_pos d2] at this; rw [if_pos (by omega)]; exact this
      · rw [if_neg d2] at this; rw [if_neg (by omega)]; exact this
/-! gather -/
def o789 (p : Nat) : Nat → Nat → Bool := fun o k => (o == 78 || o == 79) && k == p
theorem c_gather {P p : Nat} {h0 : Hp} {K : Hp → Prop} {l : List Rg} {r : Nat} (hP : P ≤ 8) (hp : p < P) (er : gI h0 75 p = nI r) (hr : r < 2 ^ 8) (N : ∀ q, q < 8 → LBm l q (gI h0 76 q).toInt ∧ UBm l q (gI h0 77 q).toInt) (k : ∀ h1, Fq (o789 p) h0 h1 → ((∀ q R, q < P → r.testBit q = true → R ∈ l → R.2.1.testBit q = true → (gI h1 78 p).toInt ≤ mR R) ∧ ((gI h1 78 p).toInt = 2147483647 ∨ ∃ q R, q < P ∧ r.testBit q = true ∧ R ∈ l ∧ R.2.1.testBit q = true ∧ mR R = (gI h1 78 p).toInt)) → ((∀ q R, q < P → r.testBit q = true → R ∈ l → R.2.1.testBit q = true → mR R ≤ (gI h1 79 p).toInt) ∧ ((gI h1 79 p).toInt = -2147483648 ∨ ∃ q R, q < P ∧ r.testBit q = true ∧ R ∈ l ∧ R.2.1.testBit q = true ∧ mR R = (gI h1 79 p).toInt)) → K h1) : Survey_gather (nI p) (nI P) h0 K := by
  have hoo : ∀ o k, o = 75 ∨ o = 76 ∨ o = 77 → o789 p o k = false := fun o k h => by
    rcases h with rfl | rfl | rfl <;> rfl
  unfold Survey_gather
  refine ⟨pk_in p 8 (by omega), ?_⟩
  rw [cl p]
  rintro _ rfl
  refine ⟨pk_in p 8 (by omega), ?_⟩
  rintro _ rfl
  have t78 : o789 p 78 p = true := by simp [o789]
  have t79 : o789 p 79 p = true := by simp [o789]
  refine pk_loop (σ := Hp) (fun n i h => Survey_gather_L18 (nI p) (nI P) K n (nI i) h) (fun i h => Fq (o789 p) h0 h ∧ ((∀ q R, q < i → r.testBit q = true → R ∈ l → R.2.1.testBit q = true → (gI h 78 p).toInt ≤ mR R) ∧ ((gI h 78 p).toInt = 2147483647 ∨ ∃ q R, q < P ∧ r.testBit q = true ∧ R ∈ l ∧ R.2.1.testBit q = true ∧ mR R = (gI h 78 p).toInt)) ∧ ((∀ q R, q < i → r.testBit q = true → R ∈ l → R.2.1.testBit q = true → mR R ≤ (gI h 79 p).toInt) ∧ ((gI h 79 p).toInt = -2147483648 ∨ ∃ q R, q < P ∧ r.testBit q = true ∧ R ∈ l ∧ R.2.1.testBit q = true ∧ mR R = (gI h 79 p).toInt))) P 0 _ (by omega) ⟨Fq.sI (Fq.sI (Fq.rf _ _) t78) t79, ⟨fun q R hq => absurd hq (by omega), Or.inl (by rw [sI_o (by decide), sI_s]; rfl)⟩, ⟨fun q R hq => absurd hq (by omega), Or.inl (by rw [sI_s]; rfl)⟩⟩ (fun n h1 J => ?_) (fun n i h hi J hk => ?_)
  · unfold Survey_gather_L18
    exact pk_le P P (fun _ => k h1 J.1 J.2.1 J.2.2) (fun c => absurd c (by omega))
  · obtain ⟨F, L, U⟩ := J
    have e75 : gI h 75 p = nI r := (F.1.1 75 p (hoo _ _ (by simp))).trans er
    have e76 : gI h 76 i = gI h0 76 i := F.1.1 76 i (hoo _ _ (by simp))
    obtain ⟨nl, nu⟩ := N i (by omega)
    unfold Survey_gather_L18
    refine pk_le P i (fun c => absurd c (by omega)) (fun _ => ⟨pk_in p 8 (by omega), ?_⟩)
    rintro J79 rfl
    rw [cl p, cl i, e75, z_bit (by omega) (by omega)]
    refine ⟨fun b => ?_, fun b => ⟨pk_in p 8 (by omega), pk_in i 8 (by omega), ?_⟩⟩
    · rintro _ rfl
      rw [nI_1 i]
      refine hk h ⟨F, ⟨fun q R hq b2 => ?_, L.2⟩, ⟨fun q R hq b2 => ?_, U.2⟩⟩
      · have : q ≠ i := fun e => b (e ▸ b2)
        exact L.1 q R (by omega) b2
      · have : q ≠ i := fun e => b (e ▸ b2)
        exact U.1 q R (by omega) b2
    · -- the new least, then the new greatest
      have fin : ∀ x y : Int32, ((∀ q R, q < i + 1 → r.testBit q = true → R ∈ l → R.2.1.testBit q = true → x.toInt ≤ mR R) ∧ (x.toInt = 2147483647 ∨ ∃ q R, q < P ∧ r.testBit q = true ∧ R ∈ l ∧ R.2.1.testBit q = true ∧ mR R = x.toInt)) → ((∀ q R, q < i + 1 → r.testBit q = true → R ∈ l → R.2.1.testBit q = true → mR R ≤ y.toInt) ∧ (y.toInt = -2147483648 ∨ ∃ q R, q < P ∧ r.testBit q = true ∧ R ∈ l ∧ R.2.1.testBit q = true ∧ mR R = y.toInt)) → Survey_gather_L18 (nI p) (nI P) K n (nI i + 1) (sI (sI h 78 p x) 79 p y) := by
        intro x y hx hy
        rw [nI_1 i]
        refine hk _ ⟨Fq.sI (Fq.sI F t78) t79, ?_, ?_⟩
        · rw [sI_o (by decide), sI_s]; exact hx
        · rw [sI_s]; exact hy
      have low : ∀ x : Int32, x.toInt ≤ (gI h 78 p).toInt → x.toInt ≤ (gI h0 76 i).toInt → (x = gI h 78 p ∨ x = gI h0 76 i) → ((∀ q R, q < i + 1 → r.testBit q = true → R ∈ l → R.2.1.testBit q = true → x.toInt ≤ mR R) ∧ (x.toInt = 2147483647 ∨ ∃ q R, q < P ∧ r.testBit q = true ∧ R ∈ l ∧ R.2.1.testBit q = true ∧ mR R = x.toInt)) := by
        intro x x1 x2 x3
        refine ⟨fun q R hq b2 hR b3 => ?_, ?_⟩
        · by_cases c : q = i
          · subst c; exact Int.le_trans x2 (nl.1 R hR b3)
          · exact Int.le_trans x1 (L.1 q R (by omega) b2 hR b3)
        · rcases x3 with rfl | rfl
          · exact L.2
          · exact nl.2.imp id (fun ⟨R, h1, h2, h3⟩ => ⟨i, R, hi, b, h1, h2, h3⟩)
      have high : ∀ x : Int32, (gI h 79 p).toInt ≤ x.toInt → (gI h0 77 i).toInt ≤ x.toInt → (x = gI h 79 p ∨ x = gI h0 77 i) → ((∀ q R, q < i + 1 → r.testBit q = true → R ∈ l → R.2.1.testBit q = true → mR R ≤ x.toInt) ∧ (x.toInt = -2147483648 ∨ ∃ q R, q < P ∧ r.testBit q = true ∧ R ∈ l ∧ R.2.1.testBit q = true ∧ mR R = x.toInt)) := by
        intro x x1 x2 x3
        refine ⟨fun q R hq b2 hR b3 => ?_, ?_⟩
        · by_cases c : q = i
          · subst c; exact Int.le_trans (nu.1 R hR b3) x2
          · exact Int.le_trans (U.1 q R (by omega) b2 hR b3) x1
        · rcases x3 with rfl | rfl
          · exact U.2
          · exact nu.2.imp id (fun ⟨R, h1, h2, h3⟩ => ⟨i, R, hi, b, h1, h2, h3⟩)
      have mid : ∀ x : Int32, x.toInt ≤ (gI h 78 p).toInt → x.toInt ≤ (gI h0 76 i).toInt → (x = gI h 78 p ∨ x = gI h0 76 i) → (vp_in (nI p) 8 ∧ ∀ h7 : Hp, h7 = sI h 78 p x → vp_in (nI p) 8 ∧ vp_in (nI i) 8 ∧ J9_max_7cf53 (gI h7 79 p) (gI h7 77 i) h7 (fun r8 h9 => vp_in (nI p) 8 ∧ ∀ h10 : Hp, h10 = sI h9 79 p r8 → (fun h3 => ∀ v4 : Int32, v4 = (nI i + 1) → Survey_gather_L18 (nI p) (nI P) K n v4 h3) h10)) := by
        intro x x1 x2 x3
        have lx := low x x1 x2 x3
        refine ⟨pk_in p 8 (by omega), ?_⟩
        rintro _ rfl
        refine ⟨pk_in p 8 (by omega), pk_in i 8 (by omega), ?_⟩
        rw [sI_o (by decide), sI_o (by decide), F.1.1 77 i (hoo _ _ (by simp))]
        unfold J9_max_7cf53
        rw [i_lt]
        refine ⟨fun c => ⟨pk_in p 8 (by omega), ?_⟩, fun c => ⟨pk_in p 8 (by omega), ?_⟩⟩
        · rintro _ rfl _ rfl
          exact fin x _ lx (high _ (by omega) (Int.le_refl _) (Or.inr rfl))
        · rintro _ rfl _ rfl
          exact fin x _ lx (high _ (Int.le_refl _) (by omega) (Or.inl rfl))
      unfold J9_min_7cf53
      rw [e76, i_lt]
      exact ⟨fun c => mid _ (by omega) (Int.le_refl _) (Or.inr rfl), fun c => mid _ (Int.le_refl _) (by omega) (Or.inl rfl)⟩
/-- what the survey has found -/
def LK (a : Row) (w : Nat) (X : Nat → Nat) (h : Hp) : Prop := NT (rings (ttA a) (pIA a w) (fun p => bl (X p)) (nP a)) h ∧ (∀ p, p < nP a → ∃ r, gI h 75 p = nI r ∧ r < 2 ^ 8 ∧ ∀ q, r.testBit q = true ↔ q < nP a ∧ Rch (ttA a) (fun p => bl (X p)) p q) ∧ ∀ p, p < nP a → (gI h 78 p).toInt = svA a w 1 (fun p => bl (X p)) p ∧ (gI h 79 p).toInt = svA a w 0 (fun p => bl (X p)) p
theorem Rch_lt {a : Row} {w : Nat} {S : Nat → List Nat} (hG : GW (ttA a) (pIA a w) S (nP a)) {p q : Nat} (hp : p < nP a) (h : Rch (ttA a) S p q) : q < nP a := Rch.inv (ttA a) (I := fun q => q < nP a) (fun x e hx he => ((hG.2 x hx).2 e he).1) h hp
theorem c_look {a : Row} {w : Nat} {X : Nat → Nat} (O : LandOK a) (hw : w < 10) (hX : XOK a w X) {h0 : Hp} {K : Hp → Prop} (V0 : SV a w X h0) (k : ∀ h1, Fq oLk h0 h1 → LK a w X h1 → K h1) : Survey_look h0 K := by
  have h8 := O.1.2.1
  have hG := GW_X O hX
  unfold Survey_look
  rintro _ rfl
  refine j_fillq (n := 8) rfl (by omega) (fun h1 f1 e76 => j_fillq (n := 8) rfl (by omega) (fun h2 f2 e77 => j_fillq (n := 8) rfl (by omega) (fun h3 f3 e75 => ?_)))
  have F3 : Fq oLk h0 h3 := (((Fq.sI (Fq.rf _ _) rfl).tr (f1.mo (oLk_1 (by omega)))).tr (f2.mo (oLk_1 (by omega)))).tr (f3.mo (oLk_1 (by omega)))
  have V3 := SV_k V0 F3 oLk_S
  refine c_places O V3.1 V3.2.1 ?_
  refine c_roots O hw hX V3 ⟨?_, fun q hq => ⟨⟨fun R hR => (by cases hR), Or.inl ?_⟩, ⟨fun R hR => (by cases hR), Or.inl ?_⟩⟩⟩ (fun p hp => e75 p hp) (fun h4 m F4 N4 M4 hm => ?_)
  · rw [f3.1.1 73 9 rfl, f2.1.1 73 9 rfl, f1.1.1 73 9 rfl, sI_s]; rfl
  · rw [f3.1.1 76 q rfl, f2.1.1 76 q rfl, e76 q hq]; rfl
  · rw [f3.1.1 77 q rfl, e77 q hq]; rfl
  · have mlt : ∀ p, p < 8 → m p < 2 ^ 8 := fun p _ => by
      apply Nat.lt_pow_two_of_testBit
      intro i hi
      cases e : (m p).testBit i
      · rfl
      · obtain ⟨hp, x, hx, hxt⟩ := (hm p i).mp e
        have := ((hG.2 p hp).2 x hx).1
        omega
    refine c_reachAll (C := fun p q => Rch (ttA a) (fun p => bl (X p)) p q) h8 M4 mlt (fun p q hp b => ?_) (fun p => Rch.rfl' _ p) (fun p q r h1 h2 => h1.tr _ h2) (fun h5 r F5 M5 r8 rs rp rm rw' => ?_)
    · obtain ⟨_, x, hx, hxt⟩ := (hm p q).mp b
      rw [← hxt]
      exact ⟨((hG.2 p hp).2 x hx).1, Rch.hd _ hx (Rch.rfl' _ _)⟩
    · have F5' : Fq oLk h0 h5 := (F3.tr F4).tr (F5.mo (oLk_1 (x := 75) (by omega)))
      have N5 : NT (rings (ttA a) (pIA a w) (fun p => bl (X p)) (nP a)) h5 := ⟨(F5.1.1 73 9 rfl).trans N4.1, fun q hq => by rw [F5.1.1 76 q rfl, F5.1.1 77 q rfl]; exact N4.2 q hq⟩
      have full : ∀ p q, p < nP a → ((r p).testBit q = true ↔ q < nP a ∧ Rch (ttA a) (fun p => bl (X p)) p q) := fun p q hp => by
        refine ⟨rs p q hp, fun ⟨_, hr⟩ => ?_⟩
        have : q < nP a ∧ (r p).testBit q = true := Rch.inv (ttA a) (S := fun p => bl (X p)) (I := fun q => q < nP a ∧ (r p).testBit q = true) (fun x e hx he => by
          have te := ((hG.2 x hx.1).2 e he).1
          exact ⟨te, rw' p (ttA a e) x hx.1 hp hx.1 hx.2 (rm x _ hx.1 ((hm x _).mpr ⟨hx.1, e, he, rfl⟩))⟩) hr ⟨hp, rp p hp⟩
        exact this.2
      refine pk_loop (σ := Hp) (fun n i h => Survey_look_L71 (nI (nP a)) K n (nI i) h) (fun i h => Fq (fun o _ => o == 78 || o == 79) h5 h ∧ ∀ p, p < i → (gI h 78 p).toInt = svA a w 1 (fun p => bl (X p)) p ∧ (gI h 79 p).toInt = svA a w 0 (fun p => bl (X p)) p) (nP a) 0 h5 (by omega) ⟨Fq.rf _ _, fun p hp => absurd hp (by omega)⟩ (fun n h6 J => ?_) (fun n i h hi J hk => ?_)
      · unfold Survey_look_L71
        refine pk_le (nP a) (nP a) (fun _ => k h6 (F5'.tr (J.1.mo (fun o k h => by rw [oLk_1 (x := 78) (by omega) o k h, oLk_1 (x := 79) (by omega) o k h]; rfl))) ⟨?_, fun p hp => ⟨r p, ?_, r8 p hp, fun q => full p q hp⟩, J.2⟩) (fun c => absurd c (by omega))
        · exact ⟨(J.1.1.1 73 9 rfl).trans N5.1, fun q hq => by rw [J.1.1.1 76 q rfl, J.1.1.1 77 q rfl]; exact N5.2 q hq⟩
        · rw [J.1.1.1 75 p rfl]; exact M5 p (by omega)
      · unfold Survey_look_L71
        refine pk_le (nP a) i (fun c => absurd c (by omega)) (fun _ => ?_)
        refine c_gather (l := rings (ttA a) (pIA a w) (fun p => bl (X p)) (nP a)) (r := r i) h8 hi ((J.1.1.1 75 i rfl).trans (M5 i (by omega))) (r8 i hi) (fun q hq => by rw [J.1.1.1 76 q rfl, J.1.1.1 77 q rfl]; exact N5.2 q hq) (fun h7 F7 g1 g2 => ?_)
        rintro _ rfl
        rw [nI_1 i]
        obtain ⟨R0, q0, hR0, hq0, hb0⟩ := ring_ex (ttA a) (pIA a w) hG hi
        have q0l := Rch_lt hG hi hq0
        have rb := fun R (hR : R ∈ rings (ttA a) (pIA a w) (fun p => bl (X p)) (nP a)) => rings_ok (ttA a) (pIA a w) hG hR
        have mb : ∀ R, R ∈ rings (ttA a) (pIA a w) (fun p => bl (X p)) (nP a) → -83160 ≤ mR R ∧ mR R ≤ 83160 := fun R hR => by
          obtain ⟨b1, b2, b3, _⟩ := rb R hR
          refine ⟨le_mR b1 b2 ?_, mR_le b1 b2 ?_⟩ <;> omega
        have m0 := mb R0 hR0
        refine hk h7 ⟨J.1.tr (F7.mo (fun o k h => by
          simp only [o789, Bool.and_eq_false_iff]; exact Or.inl h)), fun p hp => ?_⟩
        by_cases c : p = i
        · subst c
          constructor
          · refine (sv_eq (ttA a) (pIA a w) (who := 1) ⟨?_, fun R hR ⟨q, hq, hb⟩ => ?_⟩).symm
            · rcases g1.2 with z | ⟨q, R, hq, hrq, hR, hb, he⟩
              · have := g1.1 q0 R0 q0l ((full p q0 hi).mpr ⟨q0l, hq0⟩) hR0 hb0
                omega
              · exact ⟨R, hR, ⟨q, ((full p q hi).mp hrq).2, hb⟩, he⟩
            · rw [if_pos rfl]
              have ql := Rch_lt hG hi hq
              exact g1.1 q R ql ((full p q hi).mpr ⟨ql, hq⟩) hR hb
          · refine (sv_eq (ttA a) (pIA a w) (who := 0) ⟨?_, fun R hR ⟨q, hq, hb⟩ => ?_⟩).symm
            · rcases g2.2 with z | ⟨q, R, hq, hrq, hR, hb, he⟩
              · have := g2.1 q0 R0 q0l ((full p q0 hi).mpr ⟨q0l, hq0⟩) hR0 hb0
                omega
              · exact ⟨R, hR, ⟨q, ((full p q hi).mp hrq).2, hb⟩, he⟩
            · rw [if_neg (by decide)]
              have ql := Rch_lt hG hi hq
              exact g2.1 q R ql ((full p q hi).mpr ⟨ql, hq⟩) hR hb
        · rw [F7.1.1 78 p (by simp [o789, c]), F7.1.1 79 p (by simp [o789, c])]
          exact J.2 p (by omega)
