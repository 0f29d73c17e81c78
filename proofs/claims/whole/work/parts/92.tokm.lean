/-! the reference's tokens -/
def TpM (h : Hp) (b : Nat → Nat) (n : Nat) : Prop := gI h 98 8 = nI n ∧ ∀ k, k < n → gI h 101 k = nI (b k)
theorem TpM_k {h h1 : Hp} {b : Nat → Nat} {n : Nat} {S : Nat → Nat → Bool} (T : TpM h b n) (F : Fq S h h1) (hS : ∀ o k, (o = 98 ∧ k = 8) ∨ o = 101 → S o k = false) : TpM h1 b n :=
  ⟨(F.1.1 98 8 (hS _ _ (Or.inl ⟨rfl, rfl⟩))).trans T.1, fun k hk => (F.1.1 101 k (hS _ _ (Or.inr rfl))).trans (T.2 k hk)⟩
def MT (h : Hp) (t : Nat × Nat × Nat × Nat) : Prop := gI h 98 6 = nI t.1 ∧ gI h 98 7 = nI t.2.1 ∧ gI h 98 9 = nI t.2.2.1 ∧ (t.2.2.1 = 23 → gI h 98 10 = nI t.2.2.2)
/-- what is seen at a place -/
def svM (b : Nat → Nat) (n i : Nat) : Int32 := if n ≤ i then -1 else nI (b i)
theorem m_see {h : Hp} {Q : Int32 → Hp → Prop} {b : Nat → Nat} {n i : Nat} (B : TpB b n) (T : TpM h b n) (hi : i ≤ n) (k : Q (svM b n i) h) : M_see (nI i) h Q := by
  have B1 := B.1
  unfold M_see
  rw [T.1]
  unfold svM at k
  refine pk_le n i (fun c => ?_) (fun c => ⟨pk_in i 900 (by omega), ?_⟩)
  · rw [if_pos c] at k; exact k
  · rw [if_neg (by omega)] at k
    rw [cl i, T.2 i (by omega)]; exact k
theorem svM_eq {b : Nat → Nat} {n i m : Nat} (B : TpB b n) (hm : m < 256) : svM b n i = nI m ↔ i < n ∧ b i = m := by
  have := B.2 i
  unfold svM
  by_cases c : n ≤ i
  · rw [if_pos c]
    refine ⟨fun z => ?_, fun z => absurd z.1 (by omega)⟩
    have z := congrArg Int32.toInt z
    rw [nI_toInt (by omega)] at z
    have : (-1 : Int32).toInt = -1 := by decide
    omega
  · rw [if_neg c, nI_eq (by omega) (by omega)]
    exact ⟨fun z => ⟨by omega, z⟩, fun z => z.2⟩
theorem m_isSm {b : Nat → Nat} {n i : Nat} {h : Hp} {Q : Int32 → Hp → Prop} (B : TpB b n) (k : Q (if i < n ∧ isLe (b i) = true then 1 else 0) h) : M_isSmall (svM b n i) h Q := by
  have := B.2 i
  unfold M_isSmall svM
  by_cases c : n ≤ i
  · rw [if_neg (by omega)] at k
    rw [if_pos c]
    exact brT (by decide) k
  · rw [if_neg c]
    refine pk_lt (b i) 97 (fun a => ?_) (fun a => pk_lt 122 (b i) (fun a2 => ?_) (fun a2 => ?_))
    · rw [if_neg (fun z => by have := isLe_i.mp z.2; omega)] at k; exact k
    · rw [if_neg (fun z => by have := isLe_i.mp z.2; omega)] at k; exact k
    · rw [if_pos ⟨by omega, isLe_i.mpr ⟨a, a2⟩⟩] at k; exact k
theorem m_isDg {b : Nat → Nat} {n i : Nat} {h : Hp} {Q : Int32 → Hp → Prop} (B : TpB b n) (k : Q (if i < n ∧ isDi (b i) = true then 1 else 0) h) : M_isDigit (svM b n i) h Q := by
  have := B.2 i
  unfold M_isDigit svM
  by_cases c : n ≤ i
  · rw [if_neg (by omega)] at k
    rw [if_pos c]
    exact brT (by decide) k
  · rw [if_neg c]
    refine pk_lt (b i) 48 (fun a => ?_) (fun a => pk_lt 57 (b i) (fun a2 => ?_) (fun a2 => ?_))
    · rw [if_neg (fun z => by have := isDi_i.mp z.2; omega)] at k; exact k
    · rw [if_neg (fun z => by have := isDi_i.mp z.2; omega)] at k; exact k
    · rw [if_pos ⟨by omega, isDi_i.mpr ⟨a, a2⟩⟩] at k; exact k
def o98t : Nat → Nat → Bool := fun o k => o == 98 && (k == 6 || k == 7 || k == 9 || k == 10)
theorem o98_T (o k : Nat) (h : (o = 98 ∧ k = 8) ∨ o = 101) : o98t o k = false := by
  rcases h with ⟨rfl, rfl⟩ | rfl <;> rfl
theorem n_L8 {K : Hp → Prop} {b : Nat → Nat} {n : Nat} {h0 : Hp} (B : TpB b n) (T0 : TpM h0 b n) : ∀ (f i : Nat) (h : Hp), n - i = f → i ≤ n → Fq o98t h0 h → gI h 98 6 = nI i → (∀ h1, Fq o98t h0 h1 → gI h1 98 6 = nI (scn isSp b n i) → K h1) → M_next_L8 K (f + 1) h := by
  have B1 := B.1
  have no : ∀ (f i : Nat) (h : Hp), i ≤ n → Fq o98t h0 h → gI h 98 6 = nI i → ¬ (i < n ∧ isSp (b i) = true) → (∀ h1, Fq o98t h0 h1 → gI h1 98 6 = nI (scn isSp b n i) → K h1) → M_next_L8 K (f + 1) h := by
    intro f i h hi F e c k
    have T := TpM_k T0 F o98_T
    unfold M_next_L8
    rw [e]
    refine m_see B T hi ?_
    rintro J34 rfl
    have e10 : svM b n i = 10 ↔ i < n ∧ b i = 10 := svM_eq (m := 10) B (by omega)
    have e32 : svM b n i = 32 ↔ i < n ∧ b i = 32 := svM_eq (m := 32) B (by omega)
    rw [e10]
    refine brF (fun z => c ⟨z.1, isSp_i.mpr (Or.inl z.2)⟩) ?_
    rw [e]
    refine m_see B T hi ?_
    rw [e32]
    refine brF' (fun z => c ⟨z.1, isSp_i.mpr (Or.inr z.2)⟩) (k h F ?_)
    rw [scn_n c]; exact e
  intro f
  induction f with
  | zero => intro i h hf hi F e k; exact no 0 i h hi F e (by omega) k
  | succ f ih =>
    intro i h hf hi F e k
    by_cases c : i < n ∧ isSp (b i) = true
    · have T := TpM_k T0 F o98_T
      unfold M_next_L8
      rw [e]
      refine m_see B T hi ?_
      rintro J34 rfl
      have go : ∀ h5 : Hp, h5 = sI h 98 6 ((gI h 98 6) + 1) → M_next_L8 K (f + 1) h5 := by
        rintro _ rfl
        rw [e, nI_1 i]
        refine ih (i + 1) _ (by omega) (by omega) (Fq.sI F rfl) (by rw [sI_s]) (fun h1 F1 e1 => k h1 F1 ?_)
        rw [e1, ← scn_y c.1 c.2]
      have e10 : svM b n i = 10 ↔ i < n ∧ b i = 10 := svM_eq (m := 10) B (by omega)
      have e32 : svM b n i = 32 ↔ i < n ∧ b i = 32 := svM_eq (m := 32) B (by omega)
      rw [e10]
      refine ⟨fun _ => go, fun d => ?_⟩
      rw [e]
      refine m_see B T hi ?_
      rw [e32]
      refine ⟨fun d2 => absurd c.2 (fun z => ?_), fun _ => go⟩
      rcases isSp_i.mp z with q | q
      · exact d ⟨c.1, q⟩
      · exact d2 ⟨c.1, q⟩
    · exact no (f + 1) i h hi F e c k
/-! the keywords' string -/
def kof : Nat → Nat
  | 0 => 1
  | j + 1 => kof j + (kws.getD j []).length + 1
theorem kw_tab : (∀ j, j < 20 → kof j + (kws.getD j []).length < slen 33 ∧ chN 33 (kof j + (kws.getD j []).length) = 32 ∧ (kws.getD j []).length < 8 ∧ ∀ i, i < 8 → i < (kws.getD j []).length → chN 33 (kof j + i) = (kws.getD j []).getD i 0 ∧ chN 33 (kof j + i) ≠ 32) ∧ kof 20 = slen 33 := by decide +kernel
theorem sg34 : slen 34 = 12 ∧ ∀ i, i < 12 → chN 34 i = sgs.getD i 0 := by decide +kernel
theorem c_ch33 {i : Nat} {h : Hp} {Q : Int32 → Hp → Prop} (hi : i < slen 33) (k : Q (nI (chN 33 i)) h) : J0_charAt_5068e 33 (nI i) h Q := c_charAt (by omega) hi k
theorem k_L15 {h : Hp} {K : Int32 → Hp → Prop} {b : Nat → Nat} {n s e j : Nat} {x1 : Int32} (B : TpB b n) (T : TpM h b n) (he : e ≤ n) (hs : s ≤ e) (e6 : gI h 98 6 = nI s) (e7 : gI h 98 7 = nI e) (hj : j < 20) (kY : txt b s e = kws.getD j [] → K (nI (kws.getD j []).length) h) (kN : txt b s e ≠ kws.getD j [] → ∀ i, i ≤ (kws.getD j []).length → (i = (kws.getD j []).length → s + i ≠ e) → K (nI i) h) : ∃ n8, M_keyAt_L15 x1 (nI (kof j)) K n8 0 h := by
  obtain ⟨t1, t2, t3, t4⟩ := kw_tab.1 j hj
  have B1 := B.1
  generalize hl : (kws.getD j []).length = L at t1 t2 t3 t4 kY kN
  have sl : slen 33 < 200 := slen_lt (by omega)
  refine pk_loop (σ := Unit) (fun n' i _ => M_keyAt_L15 x1 (nI (kof j)) K n' (nI i) h) (fun i _ => s + i ≤ e ∧ ∀ m, m < i → b (s + m) = (kws.getD j []).getD m 0) L 0 () (by omega) ⟨by omega, fun m hm => absurd hm (by omega)⟩ (fun n' _ J => ?_) (fun n' i _ hi J hk => ?_)
  · unfold M_keyAt_L15
    rw [nI_add]
    refine c_ch33 t1 ?_
    rw [t2]
    refine brT rfl ?_
    by_cases c : s + L = e
    · refine kY (lst_ext (by rw [txt_len, hl]; omega) (fun m hm => ?_))
      rw [hl] at hm
      rw [txt_get (by omega)]
      exact J.2 m hm
    · exact kN (fun z => c (by have := congrArg List.length z; rw [txt_len, hl] at this; omega)) L (Nat.le_refl _) (fun _ => c)
  · obtain ⟨u1, u2⟩ := t4 i (by omega) hi
    have cl1 := (ch_t (o := 33) (i := kof j + i) (by omega) (by omega)).2
    have n32 : ¬ nI (chN 33 (kof j + i)) = 32 := fun z => u2 ((nI_eq (a := chN 33 (kof j + i)) (b := 32) (by omega) (by omega)).mp z)
    unfold M_keyAt_L15
    rw [nI_add]
    refine c_ch33 (by omega) (brF n32 ?_)
    rw [e6, e7, nI_add]
    refine pk_le e (s + i) (fun c => ?_) (fun c => ⟨pk_in (s + i) 900 (by omega), c_ch33 (by omega) ?_⟩)
    · exact kN (fun z => by have := congrArg List.length z; rw [txt_len, hl] at this; omega) i (by omega) (fun z => absurd z (by omega))
    · have := B.2 (s + i)
      rw [cl (s + i), T.2 (s + i) (by omega), nI_eq (by omega) (by omega)]
      refine ⟨fun d => kN (fun z => d ?_) i (by omega) (fun z => absurd z (by omega)), fun d => ?_⟩
      · have g := txt_get (b := b) (s := s) (e := e) (i := i) (by omega)
        rw [z] at g
        rw [u1]; exact g.symm
      · rintro _ rfl
        rw [nI_1 i]
        refine hk () ⟨by omega, fun m hm => ?_⟩
        by_cases q : m = i
        · subst q; rw [d]; exact u1
        · exact J.2 m (by omega)
theorem k_L97 {h : Hp} {K : Int32 → Hp → Prop} {j : Nat} {x1 : Int32} (hj : j < 20) (k : K (nI (kof j + (kws.getD j []).length)) h) : ∃ n8, M_keyAt_L97 x1 K n8 (nI (kof j)) h := by
  obtain ⟨t1, t2, t3, t4⟩ := kw_tab.1 j hj
  generalize (kws.getD j []).length = L at t1 t2 t3 t4 k
  have sl : slen 33 < 200 := slen_lt (by omega)
  have := pk_loop (σ := Unit) (fun n' i _ => M_keyAt_L97 x1 K n' (nI (kof j + i)) h) (fun i _ => True) L 0 () (by omega) trivial (fun n' _ J => by
    unfold M_keyAt_L97
    refine c_ch33 t1 ?_
    rw [t2]
    exact brT rfl k) (fun n' i _ hi J hk => by
    obtain ⟨u1, u2⟩ := t4 i (by omega) hi
    have cl1 := (ch_t (o := 33) (i := kof j + i) (by omega) (by omega)).2
    have n32 : ¬ nI (chN 33 (kof j + i)) = 32 := fun z => u2 ((nI_eq (a := chN 33 (kof j + i)) (b := 32) (by omega) (by omega)).mp z)
    unfold M_keyAt_L97
    refine c_ch33 (by omega) (brF n32 ?_)
    rintro _ rfl
    rw [nI_1 (kof j + i)]
    exact hk () trivial)
  exact this
theorem m_keyAt {h : Hp} {Q : Int32 → Hp → Prop} {b : Nat → Nat} {n s e : Nat} (B : TpB b n) (T : TpM h b n) (he : e ≤ n) (hs : s ≤ e) (e6 : gI h 98 6 = nI s) (e7 : gI h 98 7 = nI e) (k : Q (nI (fnd (txt b s e) kws 0)) h) : M_keyAt h Q := by
  have B1 := B.1
  have sl : slen 33 < 200 := slen_lt (by omega)
  unfold M_keyAt
  refine pk_loop (σ := Unit) (fun n' j _ => M_keyAt_L4 Q n' (nI j) (nI (kof j)) h) (fun j _ => ∀ i, i < j → txt b s e ≠ kws.getD i []) 20 0 () (by omega) (fun m hm => absurd hm (by omega)) (fun n' _ J => ?_) (fun n' j _ hj J hk => ?_)
  · unfold M_keyAt_L4
    refine c_len (by omega) ?_
    rw [kw_tab.2]
    refine pk_le (slen 33) (slen 33) (fun _ => ?_) (fun c => absurd c (by omega))
    rcases fnd_r (txt b s e) kws 0 with f | ⟨_, f2⟩
    · rw [f] at k; exact k
    · have f2 : fnd (txt b s e) kws 0 < 20 := f2
      exact absurd ((fnd_kw f2).mp rfl) (J _ f2)
  · obtain ⟨t1, t2, t3, t4⟩ := kw_tab.1 j hj
    unfold M_keyAt_L4
    refine c_len (by omega) (pk_le (slen 33) (kof j) (fun c => absurd c (by omega)) (fun _ => ?_))
    have nx : txt b s e ≠ kws.getD j [] → ∃ n17, M_keyAt_L97 (nI j) (fun x2_18 h19 => ∀ v20 : Int32, v20 = (x2_18 + 1) → ∀ v21 : Int32, v21 = (nI j + 1) → M_keyAt_L4 Q n' v21 v20 h19) n17 (nI (kof j)) h := fun d => by
      refine k_L97 hj ?_
      rintro _ rfl _ rfl
      rw [nI_1 (kof j + (kws.getD j []).length), nI_1 j]
      refine hk () (fun i hi => ?_)
      by_cases q : i = j
      · subst q; exact d
      · exact J i (by omega)
    refine k_L15 B T he hs e6 e7 hj (fun z => ?_) (fun z i hi zi => ?_)
    · rw [nI_add]
      refine c_ch33 t1 ?_
      rintro J97 rfl
      rw [t2, e6, e7, nI_add]
      have l := congrArg List.length z
      rw [txt_len] at l
      refine brT' rfl (brT' (by rw [← l, show s + (e - s) = e by omega]) ?_)
      rw [← (fnd_kw hj).mpr z]
      exact k
    · rw [nI_add]
      by_cases q : i = (kws.getD j []).length
      · have zi := zi q
        subst q
        refine c_ch33 t1 ?_
        rintro J97 rfl
        rw [t2, e6, e7, nI_add]
        refine brT' rfl (brF' ?_ (nx z))
        rw [nI_eq (by omega) (by omega)]; exact zi
      · obtain ⟨u1, u2⟩ := t4 i (by omega) (by omega)
        have cl1 := (ch_t (o := 33) (i := kof j + i) (by omega) (by omega)).2
        have n32 : ¬ nI (chN 33 (kof j + i)) = 32 := fun z => u2 ((nI_eq (a := chN 33 (kof j + i)) (b := 32) (by omega) (by omega)).mp z)
        refine c_ch33 (by omega) ?_
        rintro J97 rfl
        exact brF' n32 (nx z)
