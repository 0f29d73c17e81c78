/-! the table of sums: the class -/
def stepT (a : Row) (w R : Nat) (ly : Nat → Nat) (c : Nat → Int → Nat) (q : Nat) (s : Int) : Nat := ly q * c q s + smN (fun r => if R.testBit r = true ∧ toA a r = q then c (fromA a r) (s - (payA a w r).toInt) else 0) 16
def TabR (h : Hp) (c : Nat → Int → Nat) (least : Int) (size : Nat) : Prop := (gI h 92 3).toInt = least ∧ gI h 92 4 = nI size ∧ (∀ k p, k < size → p < 8 → gI h 93 (k * 8 + p) = nI (c p (least + k))) ∧ ∀ p s, p < 8 → (s < least ∨ least + size ≤ s) → c p s = 0
theorem smN_z {f : Nat → Nat} : ∀ {n : Nat}, (∀ i, i < n → f i = 0) → smN f n = 0
  | 0, _ => rfl
  | n + 1, h => by
    show smN f n + f n = 0
    rw [smN_z (fun i hi => h i (by omega)), h n (by omega)]
theorem c_lo {h : Hp} {Q : Int32 → Hp → Prop} {a : Row} {w : Nat} (L : Lnd h a) (O : LandOK a) (hw : w < 10) (k : ∀ v : Int32, -99 ≤ v.toInt ∧ v.toInt ≤ 0 → (∀ r, r < nR a → opnA a w r = true → v.toInt ≤ (payA a w r).toInt) → Q v h) : Land_leastPaid (nI w) h Q := by
  have h16 := O.2.1.1
  unfold Land_leastPaid
  refine pk_loop (σ := Int32) (fun n i v => Land_leastPaid_L4 (nI w) Q n v (nI i) h) (fun i v => (-99 ≤ v.toInt ∧ v.toInt ≤ 0) ∧ ∀ r, r < i → r < nR a → opnA a w r = true → v.toInt ≤ (payA a w r).toInt) 16 0 0 (by omega) ⟨by decide, fun r hr => absurd hr (by omega)⟩ (fun n v J => ?_) (fun n i v hi J hk => ?_)
  · unfold Land_leastPaid_L4
    exact pk_le 16 16 (fun _ => k v J.1 (fun r hr => J.2 r (by omega) hr)) (fun c => absurd c (by omega))
  · unfold Land_leastPaid_L4
    refine pk_le 16 i (fun c => absurd c (by omega)) (fun _ => ?_)
    have same : (∀ r, r = i → r < nR a → opnA a w r = true → v.toInt ≤ (payA a w r).toInt) → ∀ v5 : Int32, v5 = (nI i + 1) → Land_leastPaid_L4 (nI w) Q n v v5 h := by
      rintro e _ rfl
      rw [nI_1 i]
      refine hk v ⟨J.1, fun r hr => ?_⟩
      by_cases q : r = i
      · exact e r q
      · exact J.2 r (by omega)
    by_cases hr : i < nR a
    · refine c_isOpen L O hw hr ?_
      rintro J' rfl
      by_cases o : opnA a w i = true
      · rw [if_pos o]
        refine brF (by decide) (c_payOf L O hw hr ?_)
        have pb := payA_bd a w i
        unfold J9_min_7cf53
        refine ⟨fun d => ?_, fun d => ?_⟩
        · rw [i_lt] at d
          rintro _ rfl
          rw [nI_1 i]
          refine hk _ ⟨by have := J.1; omega, fun r hr => ?_⟩
          by_cases q : r = i
          · subst q; intros; omega
          · intro a1 a2; have := J.2 r (by omega) a1 a2; omega
        · rw [i_lt] at d
          exact same (fun r e => by subst e; intros; omega)
      · rw [if_neg o]
        exact brT rfl (same (fun r e => by subst e; exact fun _ q => absurd q o))
    · refine c_isOpenN L O (fun ⟨r, h1, h2⟩ => ?_) ?_
      · rw [nI_eq (by omega) (by omega)] at h2; omega
      · rintro J' rfl
        exact brT rfl (same (fun r e => by subst e; exact fun q => absurd q hr))
theorem c_hi {h : Hp} {Q : Int32 → Hp → Prop} {a : Row} {w : Nat} (L : Lnd h a) (O : LandOK a) (hw : w < 10) (k : ∀ v : Int32, 0 ≤ v.toInt ∧ v.toInt ≤ 99 → (∀ r, r < nR a → opnA a w r = true → (payA a w r).toInt ≤ v.toInt) → Q v h) : Land_mostPaid (nI w) h Q := by
  have h16 := O.2.1.1
  unfold Land_mostPaid
  refine pk_loop (σ := Int32) (fun n i v => Land_mostPaid_L4 (nI w) Q n v (nI i) h) (fun i v => (0 ≤ v.toInt ∧ v.toInt ≤ 99) ∧ ∀ r, r < i → r < nR a → opnA a w r = true → (payA a w r).toInt ≤ v.toInt) 16 0 0 (by omega) ⟨by decide, fun r hr => absurd hr (by omega)⟩ (fun n v J => ?_) (fun n i v hi J hk => ?_)
  · unfold Land_mostPaid_L4
    exact pk_le 16 16 (fun _ => k v J.1 (fun r hr => J.2 r (by omega) hr)) (fun c => absurd c (by omega))
  · unfold Land_mostPaid_L4
    refine pk_le 16 i (fun c => absurd c (by omega)) (fun _ => ?_)
    have same : (∀ r, r = i → r < nR a → opnA a w r = true → (payA a w r).toInt ≤ v.toInt) → ∀ v5 : Int32, v5 = (nI i + 1) → Land_mostPaid_L4 (nI w) Q n v v5 h := by
      rintro e _ rfl
      rw [nI_1 i]
      refine hk v ⟨J.1, fun r hr => ?_⟩
      by_cases q : r = i
      · exact e r q
      · exact J.2 r (by omega)
    by_cases hr : i < nR a
    · refine c_isOpen L O hw hr ?_
      rintro J' rfl
      by_cases o : opnA a w i = true
      · rw [if_pos o]
        refine brF (by decide) (c_payOf L O hw hr ?_)
        have pb := payA_bd a w i
        unfold J9_max_7cf53
        refine ⟨fun d => ?_, fun d => ?_⟩
        · rw [i_lt] at d
          rintro _ rfl
          rw [nI_1 i]
          refine hk _ ⟨by have := J.1; omega, fun r hr => ?_⟩
          by_cases q : r = i
          · subst q; intros; omega
          · intro a1 a2; have := J.2 r (by omega) a1 a2; omega
        · rw [i_lt] at d
          exact same (fun r e => by subst e; intros; omega)
      · rw [if_neg o]
        exact brT rfl (same (fun r e => by subst e; exact fun _ q => absurd q o))
    · refine c_isOpenN L O (fun ⟨r, h1, h2⟩ => ?_) ?_
      · rw [nI_eq (by omega) (by omega)] at h2; omega
      · rintro J' rfl
        exact brT rfl (same (fun r e => by subst e; exact fun q => absurd q hr))
theorem c_rowsAt {h : Hp} {Q : Int32 → Hp → Prop} {x v : Int32} {p size : Nat} (es : gI h 92 4 = nI size) (hs : size ≤ 1189) (hp : p < 8) (h1 : ∀ j : Nat, j < size → x.toInt = j → gI h 93 (j * 8 + p) = v) (h2 : ¬ (0 ≤ x.toInt ∧ x.toInt < size) → v = 0) (k : Q v h) : Sums_rowsAt x (nI p) h Q := by
  unfold Sums_rowsAt
  rintro J27 rfl J26 rfl
  have l0 : (0 : Int32).toInt = 0 := by decide
  refine ⟨fun q => brT rfl ?_, fun q => ?_⟩
  · rw [i_lt, l0] at q
    rw [h2 (by omega)] at k; exact k
  · obtain ⟨j, j31, rfl⟩ := nI_of q
    rw [nI_toInt j31] at h1 h2
    rw [es]
    have e : nI j * 8 + nI p = nI (j * 8 + p) := by rw [show (8 : Int32) = nI 8 from rfl, pk_mul, nI_add]
    refine pk_le size j (fun c => brT rfl ?_) (fun c => brF (nI_pos (by omega)) (pk_le 8 p (fun d => absurd d (by omega)) (fun _ => brF (by decide) ?_)))
    · rw [h2 (by omega)] at k; exact k
    · rw [e]
      refine ⟨pk_in (j * 8 + p) 9512 (by omega), ?_⟩
      rw [cl (j * 8 + p), h1 j (by omega) rfl]
      exact k
