/-! sets of ways as numbers -/
theorem z_s : ∀ j, j < 32 → ((nI j &&& 31).toBitVec.smod 32).toNat = j := by decide +kernel
theorem z_shr {n j : Nat} (h : n < 2 ^ 31) (hj : j < 32) : nI n >>> (nI j &&& 31) = nI (n / 2 ^ j) := pk_shrN h _ j (z_s j hj)
theorem z_or (a b : Nat) : nI a ||| nI b = nI (a ||| b) := by
  apply Int32.toBitVec_inj.1
  show BitVec.ofNat 32 a ||| BitVec.ofNat 32 b = BitVec.ofNat 32 (a ||| b)
  apply BitVec.eq_of_getLsbD_eq
  intro i hi
  simp [hi]
theorem z_and (a b : Nat) : nI a &&& nI b = nI (a &&& b) := by
  apply Int32.toBitVec_inj.1
  show BitVec.ofNat 32 a &&& BitVec.ofNat 32 b = BitVec.ofNat 32 (a &&& b)
  apply BitVec.eq_of_getLsbD_eq
  intro i hi
  simp [hi]
theorem z_a1 (n : Nat) : nI n &&& 1 = nI (n % 2) := by
  show nI n &&& nI 1 = _
  rw [z_and, Nat.and_one_is_mod]
theorem z_tb (n j : Nat) : n.testBit j = decide (n / 2 ^ j % 2 = 1) := by
  rw [Nat.testBit_eq_decide_div_mod_eq]
theorem z_bit {n j : Nat} (h : n < 2 ^ 31) (hj : j < 32) : ((nI n >>> (nI j &&& 31)) &&& 1) = 1 ↔ n.testBit j = true := by
  rw [z_shr h hj, z_a1, z_tb]
  have hm : n / 2 ^ j % 2 < 2 := Nat.mod_lt _ (by decide)
  rw [show (1 : Int32) = nI 1 from rfl, nI_eq (by omega) (by decide), decide_eq_true_iff]
theorem z_bit0 {n j : Nat} (h : n < 2 ^ 31) (hj : j < 32) : ((nI n >>> (nI j &&& 31)) &&& 1) = 0 ↔ n.testBit j = false := by
  rw [z_shr h hj, z_a1, z_tb]
  have hm : n / 2 ^ j % 2 < 2 := Nat.mod_lt _ (by decide)
  rw [show (0 : Int32) = nI 0 from rfl, nI_eq (by omega) (by decide), decide_eq_false_iff_not]
  omega
theorem z_1 : ∀ j, j < 31 → (1 : Int32) <<< (nI j &&& 31) = nI (2 ^ j) := by decide +kernel
theorem z_ls : ∀ j, j < 64 → (((nI j).toInt64 &&& 63).toBitVec.smod 64).toNat = j := by decide +kernel
theorem z_lshr {n j : Nat} (h : n < 2 ^ 31) (hj : j < 64) : lN n >>> ((nI j).toInt64 &&& 63) = lN (n / 2 ^ j) := by
  apply Int64.toInt_inj.mp
  have h2 : n / 2 ^ j ≤ n := Nat.div_le_self _ _
  show ((lN n).toBitVec.sshiftRight (((nI j).toInt64 &&& 63).toBitVec.smod 64).toNat).toInt = _
  rw [z_ls j hj, BitVec.toInt_sshiftRight]
  show (lN n).toInt >>> j = _
  rw [pk_lT (by omega), pk_lT (by omega), Int.shiftRight_eq_div_pow]
  rfl
theorem z_land (a b : Nat) : lN a &&& lN b = lN (a &&& b) := by
  apply Int64.toBitVec_inj.1
  show BitVec.ofNat 64 a &&& BitVec.ofNat 64 b = BitVec.ofNat 64 (a &&& b)
  apply BitVec.eq_of_getLsbD_eq
  intro i hi
  simp [hi]
theorem z_lbit {n j : Nat} (h : n < 2 ^ 31) (hj : j < 64) : ((nI n).toInt64 >>> ((nI j).toInt64 &&& 63)) &&& (1 : Int64) = (1 : Int64) ↔ n.testBit j = true := by
  rw [nI_l h, z_lshr h hj, show (1 : Int64) = lN 1 from rfl, z_land, Nat.and_one_is_mod, z_tb]
  have hm : n / 2 ^ j % 2 < 2 := Nat.mod_lt _ (by decide)
  rw [pk_lEQ (by omega) (by decide), decide_eq_true_iff]
/-- the set of those below n that f takes -/
def bset (f : Nat → Bool) : Nat → Nat
  | 0 => 0
  | n + 1 => bset f n + (if f n then 2 ^ n else 0)
theorem bset_lt (f : Nat → Bool) : ∀ n, bset f n < 2 ^ n
  | 0 => by show 0 < 1; omega
  | n + 1 => by
    have ih := bset_lt f n
    unfold bset
    rw [Nat.pow_succ]
    split <;> omega
theorem bset_tb (f : Nat → Bool) : ∀ n i, (bset f n).testBit i = (decide (i < n) && f i)
  | 0, i => by simp [bset]
  | n + 1, i => by
    have ih := bset_tb f n
    have hl := bset_lt f n
    unfold bset
    by_cases hf : f n
    · rw [if_pos hf, Nat.add_comm, show 2 ^ n + bset f n = 2 ^ n * 1 + bset f n by rw [Nat.mul_one], Nat.two_pow_add_eq_or_of_lt hl, Nat.testBit_or, ih, Nat.mul_one, Nat.testBit_two_pow]
      by_cases e : i = n
      · subst e; simp [hf]
      · have : ¬ n = i := fun q => e q.symm
        by_cases h2 : i < n
        · simp [this, h2, show i < n + 1 by omega]
        · simp [this, h2, show ¬ i < n + 1 by omega]
    · rw [if_neg hf, Nat.add_zero, ih]
      by_cases e : i = n
      · subst e; simp [hf]
      · by_cases h2 : i < n
        · simp [h2, show i < n + 1 by omega]
        · simp [h2, show ¬ i < n + 1 by omega]
theorem bset_or {f : Nat → Bool} {n : Nat} : bset f n ||| (if f n then 2 ^ n else 0) = bset f (n + 1) := by
  have hl := bset_lt f n
  show _ = bset f n + _
  by_cases hf : f n
  · rw [if_pos hf, Nat.or_comm, show 2 ^ n = 2 ^ n * 1 by rw [Nat.mul_one], ← Nat.two_pow_add_eq_or_of_lt hl, Nat.mul_one, Nat.add_comm]
  · rw [if_neg hf, Nat.or_zero, Nat.add_zero]
theorem bset_cong {f g : Nat → Bool} : ∀ {n : Nat}, (∀ i, i < n → f i = g i) → bset f n = bset g n
  | 0, _ => rfl
  | n + 1, h => by
    unfold bset
    rw [bset_cong (fun i hi => h i (by omega)), h n (by omega)]
theorem bset_0 {f : Nat → Bool} : ∀ {n : Nat}, bset f n = 0 ↔ ∀ i, i < n → f i = false := by
  intro n
  constructor
  · intro h i hi
    have := bset_tb f n i
    rw [h] at this
    simp [hi] at this
    exact this
  · intro h
    apply Nat.eq_of_testBit_eq
    intro i
    rw [bset_tb]
    by_cases hi : i < n
    · simp [hi, h i hi]
    · simp [hi]
/-- the least member -/
def lowF (n : Nat) : Nat → Nat → Nat
  | 0, k => k
  | m + 1, k => if n.testBit k then k else lowF n m (k + 1)
def low (n : Nat) : Nat := lowF n 32 0
theorem lowF_spec (n : Nat) : ∀ m k j, n.testBit j = true → k ≤ j → j < k + m → n.testBit (lowF n m k) = true ∧ k ≤ lowF n m k ∧ lowF n m k ≤ j ∧ ∀ i, k ≤ i → i < lowF n m k → n.testBit i = false
  | 0, k, j, _, h1, h2 => absurd h2 (by omega)
  | m + 1, k, j, hj, h1, h2 => by
    unfold lowF
    by_cases hk : n.testBit k = true
    · rw [if_pos hk]
      exact ⟨hk, Nat.le_refl k, h1, fun i h3 h4 => absurd h4 (by omega)⟩
    · rw [if_neg hk]
      have hne : k ≠ j := fun e => hk (e ▸ hj)
      obtain ⟨a1, a2, a3, a4⟩ := lowF_spec n m (k + 1) j hj (by omega) (by omega)
      refine ⟨a1, by omega, a3, fun i h3 h4 => ?_⟩
      by_cases e : i = k
      · subst e; exact Bool.eq_false_iff.mpr hk
      · exact a4 i (by omega) h4
theorem low_spec {n j : Nat} (hj : n.testBit j = true) (h : j < 32) : n.testBit (low n) = true ∧ low n ≤ j ∧ ∀ i, i < low n → n.testBit i = false := by
  obtain ⟨a1, a2, a3, a4⟩ := lowF_spec n 32 0 j hj (by omega) (by omega)
  exact ⟨a1, a3, fun i hi => a4 i (by omega) hi⟩
theorem low_of {n k : Nat} (hk : n.testBit k = true) (h : k < 32) (hl : ∀ i, i < k → n.testBit i = false) : low n = k := by
  obtain ⟨a1, a2, a3⟩ := low_spec hk h
  rcases Nat.lt_or_ge (low n) k with q | q
  · rw [hl _ q] at a1; cases a1
  · omega
theorem tb_ex {n m : Nat} (h : n ≠ 0) (hm : n < 2 ^ m) : ∃ j, j < m ∧ n.testBit j = true := by
  obtain ⟨j, hj⟩ := Nat.exists_testBit_of_ne_zero h
  refine ⟨j, ?_, hj⟩
  rcases Nat.lt_or_ge j m with q | q
  · exact q
  · have : n < 2 ^ j := Nat.lt_of_lt_of_le hm (Nat.pow_le_pow_right (by decide) q)
    rw [Nat.testBit_lt_two_pow this] at hj
    cases hj
