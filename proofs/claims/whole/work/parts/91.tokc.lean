/-! the class's tokens -/
def TpC (h : Hp) (b : Nat → Nat) (n : Nat) : Prop := gR h 0 = some 1 ∧ gI h 3 1 = nI n ∧ ∀ k, k < n → gI h 1 k = sgB (b k)
def TpB (b : Nat → Nat) (n : Nat) : Prop := n ≤ 900 ∧ ∀ k, b k < 256
theorem TpC_k {h h1 : Hp} {b : Nat → Nat} {n : Nat} {S : Nat → Nat → Bool} (T : TpC h b n) (F : Fq S h h1) (hS : ∀ o k, (o = 3 ∧ k = 1) ∨ o = 1 → S o k = false) : TpC h1 b n :=
  ⟨(F.2 0).trans T.1, (F.1.1 3 1 (hS _ _ (Or.inl ⟨rfl, rfl⟩))).trans T.2.1, fun k hk => (F.1.1 1 k (hS _ _ (Or.inr rfl))).trans (T.2.2 k hk)⟩
theorem sg_lo {c : Nat} (h : c < 128) : sgB c = nI c := if_pos h
theorem sg_hi {c : Nat} (h : ¬ c < 128) (h2 : c < 256) : (sgB c).toInt = (c : Int) - 256 := by
  unfold sgB
  rw [if_neg h]
  have l : (256 : Int32).toInt = 256 := by decide
  have e : (nI c).toInt = c := nI_toInt (by omega)
  rw [i_sub (by rw [e, l]; omega), e, l]
theorem sg_eq {c m : Nat} (hc : c < 256) (hm : m < 128) : sgB c = nI m ↔ c = m := by
  by_cases q : c < 128
  · rw [sg_lo q, nI_eq (by omega) (by omega)]
  · constructor
    · intro e
      have := congrArg Int32.toInt e
      rw [sg_hi q hc, nI_toInt (by omega)] at this
      omega
    · intro e; omega
theorem c_isLe {c : Nat} {h : Hp} {Q : Int32 → Hp → Prop} (hc : c < 256) (k : Q (if isLe c = true then 1 else 0) h) : Tokens_isLetter (sgB c) h Q := by
  unfold Tokens_isLetter
  by_cases q : c < 128
  · rw [sg_lo q]
    refine pk_lt c 97 (fun a => ?_) (fun a => pk_lt 122 c (fun a2 => ?_) (fun a2 => ?_))
    · rw [if_neg (fun z => by have := isLe_i.mp z; omega)] at k; exact k
    · rw [if_neg (fun z => by have := isLe_i.mp z; omega)] at k; exact k
    · rw [if_pos (isLe_i.mpr ⟨a, a2⟩)] at k; exact k
  · rw [if_neg (fun z => by have := isLe_i.mp z; omega)] at k
    refine brT ?_ k
    rw [i_lt, sg_hi q hc]
    have : (97 : Int32).toInt = 97 := by decide
    omega
theorem c_isDi {c : Nat} {h : Hp} {Q : Int32 → Hp → Prop} (hc : c < 256) (k : Q (if isDi c = true then 1 else 0) h) : Tokens_isDigit (sgB c) h Q := by
  unfold Tokens_isDigit
  by_cases q : c < 128
  · rw [sg_lo q]
    refine pk_lt c 48 (fun a => ?_) (fun a => pk_lt 57 c (fun a2 => ?_) (fun a2 => ?_))
    · rw [if_neg (fun z => by have := isDi_i.mp z; omega)] at k; exact k
    · rw [if_neg (fun z => by have := isDi_i.mp z; omega)] at k; exact k
    · rw [if_pos (isDi_i.mpr ⟨a, a2⟩)] at k; exact k
  · rw [if_neg (fun z => by have := isDi_i.mp z; omega)] at k
    refine brT ?_ k
    rw [i_lt, sg_hi q hc]
    have : (48 : Int32).toInt = 48 := by decide
    omega
/-! strings -/
def chN (o i : Nat) : Nat := (schr o i).toInt.toNat
theorem ch_t1 : ∀ o, o < 33 → ∀ i, i < 13 → i < slen o → schr o i = nI (chN o i) ∧ chN o i < 128 ∧ (stN o).getD i 0 = chN o i := by decide +kernel
theorem ch_t3 : ∀ i, i < 110 → i < slen 33 → schr 33 i = nI (chN 33 i) ∧ chN 33 i < 128 := by decide +kernel
theorem ch_t4 : ∀ i, i < 13 → i < slen 34 → schr 34 i = nI (chN 34 i) ∧ chN 34 i < 128 := by decide +kernel
theorem sl_t : (∀ o, o < 33 → slen o ≤ 12 ∧ (stN o).length = slen o) ∧ slen 33 ≤ 110 ∧ slen 34 = 12 := by decide +kernel
theorem ch_t {o i : Nat} (ho : o < 35) (hi : i < slen o) : schr o i = nI (chN o i) ∧ chN o i < 128 := by
  by_cases c : o < 33
  · have l := (sl_t.1 o c).1
    exact ⟨(ch_t1 o c i (by omega) hi).1, (ch_t1 o c i (by omega) hi).2.1⟩
  · have : o = 33 ∨ o = 34 := by omega
    rcases this with rfl | rfl
    · exact ch_t3 i (by have := sl_t.2.1; omega) hi
    · exact ch_t4 i (by have := sl_t.2.2; omega) hi
theorem slen_lt {o : Nat} (ho : o < 35) : slen o < 200 := by
  by_cases c : o < 33
  · have l := (sl_t.1 o c).1; omega
  · have : o = 33 ∨ o = 34 := by omega
    rcases this with rfl | rfl
    · have := sl_t.2.1; omega
    · have := sl_t.2.2; omega
theorem c_len {o : Nat} {h : Hp} {Q : Int32 → Hp → Prop} (ho : o < 35) (k : Q (nI (slen o)) h) : J0_length_8abf5 o h Q := by
  unfold J0_length_8abf5
  have l := slen_lt ho
  have e : (Int32.ofNat (slen o)) >>> ((0 : Int32) &&& 31) = nI (slen o) := by
    have := pk_shrN (n := slen o) (by omega) ((0 : Int32) &&& 31) 0 (by decide)
    rw [Nat.pow_zero, Nat.div_one] at this
    exact this
  rw [e]; exact k
theorem c_charAt {o i : Nat} {h : Hp} {Q : Int32 → Hp → Prop} (ho : o < 35) (hi : i < slen o) (k : Q (nI (chN o i)) h) : J0_charAt_5068e o (nI i) h Q := by
  obtain ⟨e1, e2⟩ := ch_t ho hi
  have l := slen_lt ho
  have ev : (((schr o i &&& 255).toUInt32 % 65536).toInt32) = nI (chN o i) := by
    rw [e1, pk_andN (n := chN o i) (by omega) 8 (by decide), Nat.mod_eq_of_lt (by omega), pk_char, pk_tn (by omega), Nat.mod_eq_of_lt (by omega)]
  have fin : vp_in (nI i) (slen o) ∧ (narrow .char (.int (((schr o (nI i).toNatClampNeg &&& 255).toUInt32 % 65536).toInt32)) = .int (((schr o (nI i).toNatClampNeg &&& 255).toUInt32 % 65536).toInt32) ∧ Q (((schr o (nI i).toNatClampNeg &&& 255).toUInt32 % 65536).toInt32) h) := by
    rw [cl i, ev]
    exact ⟨pk_in i (slen o) hi, (pk_charN (by omega)).1, k⟩
  unfold J0_charAt_5068e J1_charAt_3b067 J0_checkIndex_df160 J3_checkIndex_8e157_n J3_checkIndex_8e157_r
  constructor
  · rintro J9 rfl
    exact brF (nI_pos (by omega)) (pk_lt i (slen o) (fun _ => fin) (fun c => absurd c (by omega)))
  · rintro J9 rfl
    exact brF (nI_pos (by omega)) (pk_lt i (slen o) (fun _ => fin) (fun c => absurd c (by omega)))
/-! is a token that string -/
def CT (h : Hp) (t : Nat × Nat × Nat × Nat) : Prop := gI h 3 4 = nI t.1 ∧ gI h 3 2 = nI t.2.1 ∧ gI h 3 3 = nI (ckd t.2.2.1) ∧ (t.2.2.1 = 23 → gI h 3 5 = nI t.2.2.2)
theorem ckd_lt (k : Nat) : ckd k < 5 := by unfold ckd; split <;> (try split) <;> (try split) <;> (try split) <;> omega
theorem txt_get {b : Nat → Nat} {s e i : Nat} (h : s + i < e) : (txt b s e).getD i 0 = b (s + i) := by
  unfold txt
  rw [List.getD_eq_getElem?_getD, List.getElem?_map, List.getElem?_range (by omega)]
  rfl
theorem lst_ext {l m : List Nat} (hl : l.length = m.length) (h : ∀ i, i < m.length → l.getD i 0 = m.getD i 0) : l = m := by
  refine List.ext_getElem hl (fun i h1 h2 => ?_)
  have := h i h2
  rw [List.getD_eq_getElem?_getD, List.getD_eq_getElem?_getD, List.getElem?_eq_getElem h1, List.getElem?_eq_getElem h2] at this
  exact this
theorem c_is {h : Hp} {Q : Int32 → Hp → Prop} {b : Nat → Nat} {n o : Nat} {t : Nat × Nat × Nat × Nat} (B : TpB b n) (T : TpC h b n) (K : TkOK b n t) (C : CT h t) (ho : o < 33) (h1 : 1 ≤ o) (k : Q (if t.2.2.1 = stK o then 1 else 0) h) : Tokens_is o h Q := by
  obtain ⟨s, e, kd, v⟩ := t
  have K1 : s ≤ e := K.1
  have K2 : e ≤ n := K.2.1
  obtain ⟨c1, c2, c3, _⟩ : gI h 3 4 = nI s ∧ gI h 3 2 = nI e ∧ gI h 3 3 = nI (ckd kd) ∧ _ := C
  have B1 := B.1
  have ti : kd = stK o ↔ (ckd kd = 2 ∨ ckd kd = 4) ∧ txt b s e = stN o := tk_is K ho h1
  have k : Q (if kd = stK o then 1 else 0) h := k
  have ck := ckd_lt kd
  have sl := sl_t.1 o ho
  unfold Tokens_is
  rintro J16 rfl
  have body : (ckd kd = 2 ∨ ckd kd = 4) → J0_length_8abf5 o h (fun r2 h3 => (((gI h 3 2) - (gI h 3 4)) = r2 → ∃ n10, Tokens_is_L36 o Q n10 0 h3) ∧ (¬ ((gI h 3 2) - (gI h 3 4)) = r2 → Q 0 h3)) := by
    intro ck
    refine c_len (by omega) ?_
    rw [c1, c2, pk_sub K1]
    have e1 : nI (e - s) = nI (slen o) ↔ e - s = slen o := nI_eq (by omega) (by omega)
    rw [e1]
    refine ⟨fun q => ?_, fun q => ?_⟩
    · refine pk_loop (σ := Unit) (fun n' i _ => Tokens_is_L36 o Q n' (nI i) h) (fun i _ => ∀ j, j < i → b (s + j) = (stN o).getD j 0) (slen o) 0 () (by omega) (fun j hj => absurd hj (by omega)) (fun n' _ J => ?_) (fun n' i _ hi J hk => ?_)
      · unfold Tokens_is_L36
        refine c_len (by omega) (pk_le (slen o) (slen o) (fun _ => ?_) (fun c => absurd c (by omega)))
        rw [if_pos (ti.mpr ⟨ck, ?_⟩)] at k
        · exact k
        · refine lst_ext (by rw [txt_len, sl.2]; exact q) (fun i hi => ?_)
          rw [sl.2] at hi
          rw [txt_get (by omega)]
          exact J i hi
      · unfold Tokens_is_L36
        have ct := ch_t1 o ho i (by omega) hi
        refine c_len (by omega) (pk_le (slen o) i (fun c => absurd c (by omega)) (fun _ => ?_))
        rw [c1, nI_add, T.2.1]
        refine pk_le n (s + i) (fun c => absurd c (by omega)) (fun _ => ⟨T.1, pk_in (s + i) 900 (by omega), c_charAt (by omega) hi ?_⟩)
        rw [cl (s + i), T.2.2 (s + i) (by omega), sg_eq (B.2 _) ct.2.1]
        refine ⟨fun z => ?_, fun z => ?_⟩
        · rintro _ rfl
          rw [nI_1 i]
          refine hk () (fun j hj => ?_)
          by_cases d : j = i
          · subst d; rw [z]; exact ct.2.2.symm
          · exact J j (by omega)
        · rw [if_neg (fun w => z ?_)] at k
          · exact k
          · have := (ti.mp w).2
            have g := txt_get (b := b) (s := s) (e := e) (i := i) (by omega)
            rw [this, ct.2.2] at g
            exact g.symm
    · rw [if_neg (fun w => q ?_)] at k
      · exact k
      · have := congrArg List.length (ti.mp w).2
        rw [txt_len, sl.2] at this
        exact this
  rw [c3]
  have x2 : nI (ckd kd) = 2 ↔ ckd kd = 2 := nI_eq (a := ckd kd) (b := 2) (by omega) (by omega)
  have x4 : nI (ckd kd) = 4 ↔ ckd kd = 4 := nI_eq (a := ckd kd) (b := 4) (by omega) (by omega)
  rw [x2, x4]
  refine ⟨fun c => body (Or.inl c), fun c => ⟨fun d => ?_, fun d => body (Or.inr d)⟩⟩
  rw [if_neg (fun w => ?_)] at k
  · exact k
  · rcases (ti.mp w).1 with z | z
    · exact c z
    · exact d z
/-! going on to the next token -/
def o3t : Nat → Nat → Bool := fun o k => o == 3 && (k == 2 || k == 3 || k == 4 || k == 5)
theorem o3t_T (o k : Nat) (h : (o = 3 ∧ k = 1) ∨ o = 1) : o3t o k = false := by
  rcases h with ⟨rfl, rfl⟩ | rfl <;> rfl
theorem a_L8 {K : Hp → Prop} {b : Nat → Nat} {n : Nat} {h0 : Hp} (B : TpB b n) (T0 : TpC h0 b n) : ∀ (f i : Nat) (h : Hp), n - i = f → i ≤ n → Fq o3t h0 h → gI h 3 4 = nI i → (∀ h1, Fq o3t h0 h1 → gI h1 3 4 = nI (scn isSp b n i) → K h1) → Tokens_advance_L8 K (f + 1) h := by
  have B1 := B.1
  intro f
  induction f with
  | zero =>
    intro i h hf hi F e k
    have T := TpC_k T0 F o3t_T
    unfold Tokens_advance_L8
    rw [T.2.1, e]
    refine pk_le n i (fun _ => k h F ?_) (fun c => absurd c (by omega))
    rw [scn_n (by omega)]; exact e
  | succ f ih =>
    intro i h hf hi F e k
    have T := TpC_k T0 F o3t_T
    have bi := B.2 i
    unfold Tokens_advance_L8
    rw [T.2.1, e]
    refine pk_le n i (fun c => absurd c (by omega)) (fun _ => ⟨T.1, pk_in i 900 (by omega), ?_⟩)
    rintro J47 rfl
    rw [cl i, T.2.2 i (by omega)]
    have go : isSp (b i) = true → ∀ h4 : Hp, h4 = sI h 3 4 ((gI h 3 4) + 1) → Tokens_advance_L8 K (f + 1) h4 := by
      rintro sp _ rfl
      rw [e, nI_1 i]
      refine ih (i + 1) _ (by omega) (by omega) (Fq.sI F rfl) (by rw [sI_s]) (fun h1 F1 e1 => k h1 F1 ?_)
      rw [e1, ← scn_y (by omega) sp]
    have e10 : sgB (b i) = 10 ↔ b i = 10 := sg_eq (m := 10) bi (by omega)
    have e32 : sgB (b i) = 32 ↔ b i = 32 := sg_eq (m := 32) bi (by omega)
    rw [e10, e32]
    refine ⟨fun c => go (isSp_i.mpr (Or.inl c)), fun c => ⟨T.1, pk_in i 900 (by omega), fun d => k h F ?_, fun d => go (isSp_i.mpr (Or.inr d))⟩⟩
    rw [scn_n (fun z => ?_)]
    · exact e
    · rcases isSp_i.mp z.2 with q | q
      · exact c q
      · exact d q
theorem a_L107 {Q : Hp → Prop} {b : Nat → Nat} {n : Nat} {h0 : Hp} (B : TpB b n) (T0 : TpC h0 b n) : ∀ (f i : Nat) (h : Hp), n - i = f → i ≤ n → Fq (fun o k => o == 3 && k == 2) h0 h → gI h 3 2 = nI i → (∀ h1, Fq (fun o k => o == 3 && k == 2) h0 h1 → gI h1 3 2 = nI (scn isLe b n i) → Q h1) → Tokens_advance_L107 Q (f + 1) h := by
  have B1 := B.1
  intro f
  induction f with
  | zero =>
    intro i h hf hi F e k
    have T := TpC_k T0 F (fun o k hh => by rcases hh with ⟨rfl, rfl⟩ | rfl <;> rfl)
    unfold Tokens_advance_L107
    rw [T.2.1, e]
    refine pk_le n i (fun _ => k h F ?_) (fun c => absurd c (by omega))
    rw [scn_n (by omega)]; exact e
  | succ f ih =>
    intro i h hf hi F e k
    have T := TpC_k T0 F (fun o k hh => by rcases hh with ⟨rfl, rfl⟩ | rfl <;> rfl)
    unfold Tokens_advance_L107
    rw [T.2.1, e]
    refine pk_le n i (fun c => absurd c (by omega)) (fun _ => ⟨T.1, pk_in i 900 (by omega), ?_⟩)
    rw [cl i, T.2.2 i (by omega)]
    refine c_isLe (B.2 i) ?_
    by_cases l : isLe (b i) = true
    · rw [if_pos l]
      refine brF (by decide) ?_
      rintro _ rfl
      rw [e, nI_1 i]
      refine ih (i + 1) _ (by omega) (by omega) (Fq.sI F rfl) (by rw [sI_s]) (fun h1 F1 e1 => k h1 F1 ?_)
      rw [e1, ← scn_y (by omega) l]
    · rw [if_neg l]
      refine brT rfl (k h F ?_)
      rw [scn_n (fun z => l z.2)]; exact e
theorem a_L166 {K : Hp → Prop} {b : Nat → Nat} {n s : Nat} {h0 : Hp} (B : TpB b n) (T0 : TpC h0 b n) : ∀ (f i : Nat) (h : Hp), n - i = f → i ≤ n → s ≤ i → (∀ j, s ≤ j → j < i → isDi (b j) = true) → Fq (fun o k => o == 3 && (k == 2 || k == 5)) h0 h → gI h 3 2 = nI i → (i - s ≤ 3 → gI h 3 5 = nI (dgv b s (i - s))) → (∀ h1, Fq (fun o k => o == 3 && (k == 2 || k == 5)) h0 h1 → gI h1 3 2 = nI (scn isDi b n i) → (scn isDi b n i - s ≤ 3 → gI h1 3 5 = nI (dgv b s (scn isDi b n i - s))) → K h1) → Tokens_advance_L166 K (f + 1) h := by
  have B1 := B.1
  intro f
  induction f with
  | zero =>
    intro i h hf hi hs hd F e v k
    have T := TpC_k T0 F (fun o k hh => by rcases hh with ⟨rfl, rfl⟩ | rfl <;> rfl)
    unfold Tokens_advance_L166
    rw [T.2.1, e]
    refine pk_le n i (fun _ => k h F ?_ ?_) (fun c => absurd c (by omega))
    · rw [scn_n (by omega)]; exact e
    · rw [scn_n (by omega)]; exact v
  | succ f ih =>
    intro i h hf hi hs hd F e v k
    have T := TpC_k T0 F (fun o k hh => by rcases hh with ⟨rfl, rfl⟩ | rfl <;> rfl)
    unfold Tokens_advance_L166
    rw [T.2.1, e]
    refine pk_le n i (fun c => absurd c (by omega)) (fun _ => ⟨T.1, pk_in i 900 (by omega), ?_⟩)
    rw [cl i, T.2.2 i (by omega)]
    refine c_isDi (B.2 i) ?_
    by_cases l : isDi (b i) = true
    · have lb := isDi_i.mp l
      rw [if_pos l]
      refine brF (by decide) ⟨T.1, ?_⟩
      rw [e]
      refine ⟨pk_in i 900 (by omega), ?_⟩
      rw [cl i, T.2.2 i (by omega), sg_lo (by omega)]
      have go : ∀ x : Int32, (i + 1 - s ≤ 3 → x = nI (dgv b s (i + 1 - s))) → ∀ h31 : Hp, h31 = sI h 3 5 x → ∀ h32 : Hp, h32 = sI h31 3 2 ((gI h31 3 2) + 1) → Tokens_advance_L166 K (f + 1) h32 := by
        rintro x hx _ rfl _ rfl
        rw [sI_k (by decide), e, nI_1 i]
        refine ih (i + 1) _ (by omega) (by omega) (by omega) (fun j h1 h2 => ?_) (Fq.sI (Fq.sI F rfl) rfl) (by rw [sI_s]) (fun h3 => by rw [sI_k (by decide), sI_s]; exact hx h3) (fun h1 F1 e1 v1 => k h1 F1 ?_ ?_)
        · by_cases q : j = i
          · subst q; exact l
          · exact hd j h1 (by omega)
        · rw [e1, ← scn_y (by omega) l]
        · rw [scn_y (by omega) l]; exact v1
      have val : i + 1 - s ≤ 3 → gI h 3 5 * 10 + nI (b i) - 48 = nI (dgv b s (i + 1 - s)) ∧ dgv b s (i + 1 - s) < 1000 := fun q => by
        have dl := dgv_lt (b := b) (s := s) (i - s) (fun j hj => (isDi_i.mp (hd (s + j) (by omega) (by omega))).2)
        have p : 10 ^ (i - s) ≤ 10 ^ 2 := Nat.pow_le_pow_right (by decide) (by omega)
        have ed : dgv b s (i + 1 - s) = 10 * dgv b s (i - s) + (b i - 48) := by
          rw [show i + 1 - s = (i - s) + 1 by omega]
          show 10 * dgv b s (i - s) + (b (s + (i - s)) - 48) = _
          rw [show s + (i - s) = i by omega]
        refine ⟨?_, by omega⟩
        rw [v (by omega), show (10 : Int32) = nI 10 from rfl, pk_mul, nI_add, show (48 : Int32) = nI 48 from rfl, pk_sub (by omega), ed]
        congr 1
        omega
      unfold J9_min_7cf53
      refine ⟨fun c => go _ (fun q => ?_), fun c => go _ (fun q => (val q).1)⟩
      rw [(val q).1, i_lt, nI_toInt (by have := (val q).2; omega)] at c
      have : (9999 : Int32).toInt = 9999 := by decide
      have := (val q).2
      omega
    · rw [if_neg l]
      refine brT rfl (k h F ?_ ?_)
      · rw [scn_n (fun z => l z.2)]; exact e
      · rw [scn_n (fun z => l z.2)]; exact v
theorem sg_tab : ∀ i, i < 12 → schr 0 i = nI (sgs.getD i 0) := by decide
theorem c_idx {c : Nat} {h : Hp} {Q : Int32 → Hp → Prop} (h1 : 0 < c) (h2 : c < 128) (kY : ∀ i, i < 12 → c ∈ sgs → Q (nI i) h) (kN : c ∉ sgs → Q (-1) h) : J0_indexOf_0f7a4 0 (((nI c).toUInt32 % 65536).toInt32) h Q := by
  have e1 : ((nI c).toUInt32 % 65536).toInt32 = nI c := by rw [pk_char, pk_tn (by omega), Nat.mod_eq_of_lt (by omega)]
  have s0 : slen 0 = 12 := by decide
  have mem : ∀ i, i < 12 → sgs.getD i 0 ∈ sgs := by decide
  have mem2 : ∀ x, x ∈ sgs → ∃ i, i < 12 ∧ sgs.getD i 0 = x := by decide
  rw [e1]
  unfold J0_indexOf_0f7a4 J0_indexOf_7cf53
  refine c_len (by omega) ?_
  unfold J1_indexOf_4cfef J1_canEncode_9a6ad
  refine brF (nI_pos (by omega)) (pk_lt 255 c (fun q => absurd q (by omega)) (fun _ => brF' (by decide) ?_))
  unfold J9_max_7cf53
  refine brF (by decide) ?_
  unfold J9_min_7cf53
  rw [s0]
  refine brF (by decide) (brT (by decide) ?_)
  unfold J1_indexOfChar_4cfef
  have e8 : (nI c).toInt8.toInt32 = nI c := by
    have t : ∀ c, c < 128 → (nI c).toInt8.toInt32 = nI c := by decide +kernel
    exact t c h2
  rw [e8]
  rintro _ rfl
  refine pk_loop (σ := Unit) (fun n' i _ => J1_indexOfChar_4cfef_L7 0 (nI 12) (nI c) Q n' (nI i) h) (fun i _ => ∀ j, j < i → sgs.getD j 0 ≠ c) 12 0 () (by omega) (fun j hj => absurd hj (by omega)) (fun n' _ J => ?_) (fun n' i _ hi J hk => ?_)
  · unfold J1_indexOfChar_4cfef_L7
    refine pk_le 12 12 (fun _ => kN (fun m => ?_)) (fun q => absurd q (by omega))
    obtain ⟨i, a1, a2⟩ := mem2 c m
    exact J i a1 a2
  · unfold J1_indexOfChar_4cfef_L7
    have sm : ∀ i, i < 12 → sgs.getD i 0 < 128 := by decide
    have := sm i hi
    refine pk_le 12 i (fun q => absurd q (by omega)) (fun _ => ⟨by rw [s0]; exact pk_in i 12 hi, ?_⟩)
    rw [cl i, sg_tab i hi, nI_eq (by omega) (by omega)]
    refine ⟨fun q => ?_, fun q => kY i hi (q ▸ mem i hi)⟩
    rintro _ rfl
    rw [nI_1 i]
    refine hk () (fun j hj => ?_)
    by_cases d : j = i
    · subst d; exact q
    · exact J j (by omega)
theorem fns_in {c : Nat} : c ∈ sgs ↔ fns c sgs 30 ≠ 25 := by
  constructor
  · intro m e
    have mem2 : ∀ x, x ∈ sgs → ∃ i, i < 12 ∧ sgs.getD i 0 = x := by decide
    obtain ⟨i, a1, a2⟩ := mem2 c m
    have := (fns_k (c := c) i a1).mpr a2.symm
    omega
  · intro e
    rcases fns_r c sgs 30 with f | ⟨_, _, f3⟩
    · exact absurd f e
    · exact f3
theorem c_advance {h0 : Hp} {Q : Hp → Prop} {b : Nat → Nat} {n pos : Nat} (B : TpB b n) (T0 : TpC h0 b n) (e0 : gI h0 3 2 = nI pos) (hp : pos ≤ n) (k : ∀ h1, Fq o3t h0 h1 → CT h1 (tok b n pos) → Q h1) : Tokens_advance h0 Q := by
  have B1 := B.1
  unfold Tokens_advance
  rw [e0]
  rintro _ rfl
  refine ⟨n - pos + 1, a_L8 B T0 (n - pos) pos _ rfl hp (Fq.sI (Fq.rf _ _) rfl) (by rw [sI_s]) (fun h1 F1 e1 => ?_)⟩
  obtain ⟨s1, s2, _, s4⟩ := scn_ge (P := isSp) (b := b) (n := n) (i := pos) rfl
  have s2 := s2 hp
  unfold tok at k
  generalize scn isSp b n pos = s at s1 s2 s4 e1 k
  rintro _ rfl
  rw [e1]
  have F2 : Fq o3t h0 (sI h1 3 2 (nI s)) := Fq.sI F1 rfl
  have T2 := TpC_k T0 F2 o3t_T
  have e24 : gI (sI h1 3 2 (nI s)) 3 4 = nI s := by rw [sI_k (by decide)]; exact e1
  have e22 : gI (sI h1 3 2 (nI s)) 3 2 = nI s := by rw [sI_s]
  generalize sI h1 3 2 (nI s) = h2 at F2 T2 e24 e22
  rw [e24, T2.2.1]
  refine pk_lt s n (fun c => ⟨T2.1, pk_in s 900 (by omega), ?_⟩) (fun c => ?_)
  · rw [if_neg (by omega)] at k
    rw [cl s, T2.2.2 s c]
    have bs := B.2 s
    refine c_isLe bs ?_
    by_cases l : isLe (b s) = true
    · rw [if_pos l] at k ⊢
      refine brF (by decide) ?_
      rintro _ rfl
      have T3 : TpC (sI h2 3 3 2) b n := TpC_k T2 (Fq.sI (Fq.rf o3t h2) rfl) o3t_T
      refine ⟨n - s + 1, a_L107 B T3 (n - s) s _ rfl s2 (Fq.rf _ _) (by rw [sI_k (by decide)]; exact e22) (fun h3 F3 e3 => k h3 ((Fq.sI F2 rfl).tr (F3.mo (fun o k hh => ?_))) ⟨?_, e3, ?_, fun z => ?_⟩)⟩
      · simp only [o3t, Bool.and_eq_false_iff, Bool.or_eq_false_iff] at hh ⊢
        rcases hh with z | z
        · exact Or.inl z
        · exact Or.inr z.1.1.1
      · rw [F3.1.1 3 4 rfl, sI_k (by decide)]; exact e24
      · rw [F3.1.1 3 3 rfl, sI_s]
        show (2 : Int32) = nI (ckd (fnd (txt b s (scn isLe b n s)) kws 0))
        rw [ck_kw]
        · rfl
        · rcases fnd_r (txt b s (scn isLe b n s)) kws 0 with f | ⟨_, f2⟩
          · exact Or.inr f
          · exact Or.inl f2
      · have z : fnd (txt b s (scn isLe b n s)) kws 0 = 23 := z
        rcases fnd_r (txt b s (scn isLe b n s)) kws 0 with f | ⟨_, f2⟩
        · omega
        · have f2 : fnd (txt b s (scn isLe b n s)) kws 0 < 20 := f2
          omega
    · rw [if_neg l] at k ⊢
      refine brT rfl ⟨T2.1, ?_⟩
      rw [e24]
      refine ⟨pk_in s 900 (by omega), ?_⟩
      rw [cl s, T2.2.2 s c]
      refine c_isDi bs ?_
      by_cases d : isDi (b s) = true
      · rw [if_pos d] at k ⊢
        refine brF (by decide) ?_
        rintro _ rfl
        have T3 : TpC (sI h2 3 5 0) b n := TpC_k T2 (Fq.sI (Fq.rf o3t h2) rfl) o3t_T
        refine ⟨n - s + 1, a_L166 (s := s) B T3 (n - s) s _ rfl s2 (Nat.le_refl s) (fun j h1 h2 => absurd h2 (by omega)) (Fq.rf _ _) (by rw [sI_k (by decide)]; exact e22) (fun _ => by rw [sI_s, Nat.sub_self]; rfl) (fun h3 F3 e3 v3 => ?_)⟩
        have e34 : gI h3 3 4 = nI s := by rw [F3.1.1 3 4 rfl, sI_k (by decide)]; exact e24
        obtain ⟨g1, g2, _, _⟩ := scn_ge (P := isDi) (b := b) (n := n) (i := s) rfl
        have g2 := g2 s2
        generalize scn isDi b n s = e at g1 g2 e3 v3 k
        have FF : ∀ x : Int32, Fq o3t h0 (sI h3 3 3 x) := fun x => Fq.sI ((Fq.sI F2 rfl).tr (F3.mo (fun o k hh => by
          simp only [o3t, Bool.and_eq_false_iff, Bool.or_eq_false_iff] at hh ⊢
          rcases hh with z | z
          · exact Or.inl z
          · exact Or.inr ⟨z.1.1.1, z.2⟩))) rfl
        rintro J254 rfl
        rw [e3, e34, pk_sub g1]
        refine pk_le (e - s) 3 (fun q => ?_) (fun q => ?_)
        · rintro _ rfl
          rw [if_pos q] at k
          exact k _ (FF 3) ⟨by rw [sI_k (by decide)]; exact e34, by rw [sI_k (by decide)]; exact e3, by rw [sI_s]; rfl, fun _ => by rw [sI_k (by decide)]; exact v3 q⟩
        · rintro _ rfl
          rw [if_neg (by omega)] at k
          exact k _ (FF 1) ⟨by rw [sI_k (by decide)]; exact e34, by rw [sI_k (by decide)]; exact e3, by rw [sI_s]; rfl, fun z => absurd (show (25 : Nat) = 23 from z) (by decide)⟩
      · rw [if_neg d] at k ⊢
        refine brT rfl ⟨T2.1, ?_⟩
        rw [e24]
        refine ⟨pk_in s 900 (by omega), ?_⟩
        rintro J296 rfl J295 rfl
        rw [cl s, T2.2.2 s c]
        have fin : ∀ x : Int32, x = nI (ckd (fns (b s) sgs 30)) → ∀ h18 : Hp, h18 = sI h2 3 3 x → ∀ h19 : Hp, h19 = sI h18 3 2 ((gI h18 3 2) + 1) → Q h19 := by
          rintro x hx _ rfl _ rfl
          rw [sI_k (by decide), e22, nI_1 s]
          refine k _ (Fq.sI (Fq.sI F2 rfl) rfl) ⟨by rw [sI_k (by decide), sI_k (by decide)]; exact e24, by rw [sI_s], by rw [sI_k (by decide), sI_s]; exact hx, fun z => ?_⟩
          have z : fns (b s) sgs 30 = 23 := z
          rcases fns_r (b s) sgs 30 with f | ⟨f1, _⟩ <;> omega
        have bad : b s ∉ sgs → (1 : Int32) = nI (ckd (fns (b s) sgs 30)) := fun m => by
          have : fns (b s) sgs 30 = 25 := Classical.byContradiction (fun z => m (fns_in.mpr z))
          rw [this]; rfl
        have good : b s ∈ sgs → (4 : Int32) = nI (ckd (fns (b s) sgs 30)) := fun m => by
          rcases fns_r (b s) sgs 30 with f | ⟨f1, f2, _⟩
          · exact absurd f (fns_in.mp m)
          · have f2 : fns (b s) sgs 30 < 42 := f2
            have : ckd (fns (b s) sgs 30) = 4 := by unfold ckd; rw [if_neg (by omega), if_neg (by omega), if_neg (by omega), if_neg (by omega)]
            rw [this]; rfl
        have small : ∀ c, c ∈ sgs → 0 < c ∧ c < 128 := by decide
        by_cases lo : 0 < b s ∧ b s < 128
        · rw [sg_lo lo.2]
          refine pk_le (b s) 0 (fun q => absurd q (by omega)) (fun _ => ⟨T2.1, pk_in s 900 (by omega), c_idx lo.1 lo.2 (fun i hi m => ?_) (fun m => ?_)⟩)
          · exact brF (nI_pos (by omega)) (fin 4 (good m))
          · exact brT (by decide) (fin 1 (bad m))
        · refine brT ?_ (fin 1 (bad (fun m => lo (small _ m))))
          rw [i_le]
          have z0 : (0 : Int32).toInt = 0 := by decide
          by_cases q : b s < 128
          · rw [sg_lo q, nI_toInt (by omega), z0]; omega
          · rw [sg_hi q bs, z0]; omega
  · rw [if_pos (by omega)] at k
    rintro _ rfl
    refine k _ (Fq.sI F2 rfl) ⟨by rw [sI_k (by decide)]; exact e24, by rw [sI_k (by decide)]; exact e22, by rw [sI_s]; rfl, fun z => absurd (show (24 : Nat) = 23 from z) (by decide)⟩
