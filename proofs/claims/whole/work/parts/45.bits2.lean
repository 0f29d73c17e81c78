/-! the JDK's bits -/
theorem low_nz {n : Nat} (h0 : n ≠ 0) {m : Nat} (hm : n < 2 ^ m) (h32 : m ≤ 32) : low n < m ∧ n.testBit (low n) = true ∧ ∀ i, i < low n → n.testBit i = false := by
  obtain ⟨j, hj, ht⟩ := tb_ex h0 hm
  obtain ⟨a1, a2, a3⟩ := low_spec ht (by omega)
  exact ⟨by omega, a1, a3⟩
theorem low_form {n k : Nat} (hk : n.testBit k = true) (hl : ∀ i, i < k → n.testBit i = false) : n = 2 ^ k * (2 * (n / 2 ^ (k + 1)) + 1) := by
  have h1 : n % 2 ^ k = 0 := by
    apply Nat.eq_of_testBit_eq
    intro i
    rw [Nat.testBit_mod_two_pow, Nat.zero_testBit]
    by_cases q : i < k
    · rw [hl i q]; simp
    · simp [q]
  have h2 : n / 2 ^ k % 2 = 1 := by rw [z_tb, decide_eq_true_iff] at hk; exact hk
  have h3 : n / 2 ^ (k + 1) = n / 2 ^ k / 2 := by rw [Nat.pow_succ, Nat.div_div_eq_div_mul]
  rw [h3]
  have h4 : 2 * (n / 2 ^ k / 2) + 1 = n / 2 ^ k := by omega
  rw [h4]
  have := Nat.div_add_mod n (2 ^ k)
  omega
theorem ntz_v {n k : Nat} (hn : n < 2 ^ 31) (hk : n.testBit k = true) (hl : ∀ i, i < k → n.testBit i = false) : (nI n ^^^ (-1)) &&& (nI n - 1) = nI (2 ^ k - 1) := by
  have hf := low_form hk hl
  generalize hm : n / 2 ^ (k + 1) = m at hf
  have hp : 0 < 2 ^ k := Nat.two_pow_pos k
  have hf2 : n = 2 ^ k * (2 * m) + 2 ^ k := by rw [Nat.mul_add, Nat.mul_one] at hf; exact hf
  have e1 : nI n - 1 = nI (2 ^ k * (2 * m) + (2 ^ k - 1)) := by
    show nI n - nI 1 = _
    rw [pk_sub (by omega)]; congr 1; omega
  rw [e1]
  have hk31 : k < 31 := by
    rcases Nat.lt_or_ge k 31 with q | q
    · exact q
    · have : 2 ^ 31 ≤ 2 ^ k := Nat.pow_le_pow_right (by decide) q
      have := Nat.le_add_left (2 ^ k) (2 ^ k * (2 * m))
      omega
  apply Int32.toBitVec_inj.1
  show (BitVec.ofNat 32 n ^^^ BitVec.allOnes 32) &&& BitVec.ofNat 32 (2 ^ k * (2 * m) + (2 ^ k - 1)) = BitVec.ofNat 32 (2 ^ k - 1)
  apply BitVec.eq_of_getLsbD_eq
  intro i hi
  simp only [BitVec.getLsbD_and, BitVec.getLsbD_xor, BitVec.getLsbD_ofNat, BitVec.getLsbD_allOnes, hi, decide_true, Bool.true_and]
  rw [Nat.testBit_two_pow_mul_add _ (by omega), Nat.testBit_two_pow_sub_one]
  by_cases q : i < k
  · rw [if_pos q, hl i q]; simp [q]
  · rw [if_neg q]
    simp only [q, decide_false]
    by_cases e : i = k
    · subst e; rw [hk]; simp
    · have a : n.testBit i = (2 * m + 1).testBit (i - k) := by
        have : n = 2 ^ k * (2 * m + 1) + 0 := by rw [Nat.add_zero]; exact hf
        rw [this, Nat.testBit_two_pow_mul_add _ hp, if_neg q]
      have b : (2 * m + 1).testBit (i - k) = (2 * m).testBit (i - k) := by
        obtain ⟨j, hj⟩ : ∃ j, i - k = j + 1 := ⟨i - k - 1, by omega⟩
        rw [hj, Nat.testBit_succ, Nat.testBit_succ]
        congr 1; omega
      rw [a, b]
      cases (2 * m).testBit (i - k) <;> rfl
set_option maxRecDepth 10000 in
theorem j_ntz {n m : Nat} {h : Hp} {Q : Int32 → Hp → Prop} (h0 : n ≠ 0) (hm : n < 2 ^ 17) (k : Q (nI (low n)) h) : J6_numberOfTrailingZeros_0f7a4 (nI n) h Q := by
  obtain ⟨l17, lb, ll⟩ := low_nz h0 hm (by decide)
  unfold J6_numberOfTrailingZeros_0f7a4
  rintro v1 hv1
  rw [ntz_v (by omega) lb ll] at hv1
  subst hv1
  revert k l17
  generalize low n = j
  intro k l17
  have : j = 0 ∨ j = 1 ∨ j = 2 ∨ j = 3 ∨ j = 4 ∨ j = 5 ∨ j = 6 ∨ j = 7 ∨ j = 8 ∨ j = 9 ∨ j = 10 ∨ j = 11 ∨ j = 12 ∨ j = 13 ∨ j = 14 ∨ j = 15 ∨ j = 16 := by omega
  rcases this with rfl | rfl | rfl | rfl | rfl | rfl | rfl | rfl | rfl | rfl | rfl | rfl | rfl | rfl | rfl | rfl | rfl
  · refine brF (by decide) ?_
    exact (congrArg (fun x => Q x h) (by decide : nI (2 ^ 0 - 1) &&& 32 = nI 0)).mpr k
  all_goals
    refine brT (by decide) ?_
    rintro J34 rfl
    refine brT (by decide) ?_
    rintro J49 rfl
    (first | (refine brT (by decide) ?_) | (refine brF (by decide) ?_; rintro v18 rfl v19 rfl))
    all_goals
      rintro J62 rfl
      (first | (refine brT (by decide) ?_) | (refine brF (by decide) ?_; rintro v18 rfl v19 rfl))
      rintro J74 rfl
      (first | (refine brT (by decide) ?_) | (refine brF (by decide) ?_; rintro v18 rfl v19 rfl))
      refine (congrArg (fun x => Q x h) ?_).mpr k
      decide
theorem j_lob {n k : Nat} {h : Hp} {Q : Int32 → Hp → Prop} (hn : n < 2 ^ 31) (hk : n.testBit k = true) (hl : ∀ i, i < k → n.testBit i = false) (kk : Q (nI (2 ^ k)) h) : J6_lowestOneBit_0f7a4 (nI n) h Q := by
  unfold J6_lowestOneBit_0f7a4
  have e : nI n &&& -nI n = nI (2 ^ k) := by
    have hf := low_form hk hl
    generalize hm : n / 2 ^ (k + 1) = m at hf
    have hp : 0 < 2 ^ k := Nat.two_pow_pos k
    have hf2 : n = 2 ^ k * (2 * m) + 2 ^ k := by rw [Nat.mul_add, Nat.mul_one] at hf; exact hf
    have e1 : -nI n = (nI n - 1) ^^^ (-1) := by
      have : ∀ x : Int32, -x = (x - 1) ^^^ (-1) := by
        intro x
        apply Int32.toBitVec_inj.1
        show -x.toBitVec = (x.toBitVec - 1#32) ^^^ BitVec.allOnes 32
        rw [BitVec.xor_allOnes, BitVec.not_sub_one_eq_not_add_one]
        rw [BitVec.neg_eq_not_add]
      exact this _
    have e2 : nI n - 1 = nI (2 ^ k * (2 * m) + (2 ^ k - 1)) := by
      show nI n - nI 1 = _
      rw [pk_sub (by omega)]; congr 1; omega
    rw [e1, e2]
    apply Int32.toBitVec_inj.1
    show BitVec.ofNat 32 n &&& (BitVec.ofNat 32 (2 ^ k * (2 * m) + (2 ^ k - 1)) ^^^ BitVec.allOnes 32) = BitVec.ofNat 32 (2 ^ k)
    apply BitVec.eq_of_getLsbD_eq
    intro i hi
    simp only [BitVec.getLsbD_and, BitVec.getLsbD_xor, BitVec.getLsbD_ofNat, BitVec.getLsbD_allOnes, hi, decide_true, Bool.true_and]
    rw [Nat.testBit_two_pow_mul_add _ (by omega), Nat.testBit_two_pow]
    by_cases q : i < k
    · rw [hl i q]; simp; omega
    · rw [if_neg q]
      by_cases e : i = k
      · subst e; rw [hk]; simp
      · have a : n.testBit i = (2 * m + 1).testBit (i - k) := by
          have : n = 2 ^ k * (2 * m + 1) + 0 := by rw [Nat.add_zero]; exact hf
          rw [this, Nat.testBit_two_pow_mul_add _ hp, if_neg q]
        have b : (2 * m + 1).testBit (i - k) = (2 * m).testBit (i - k) := by
          obtain ⟨j, hj⟩ : ∃ j, i - k = j + 1 := ⟨i - k - 1, by omega⟩
          rw [hj, Nat.testBit_succ, Nat.testBit_succ]
          congr 1; omega
        rw [a, b]
        have hne : ¬ k = i := fun q => e q.symm
        cases (2 * m).testBit (i - k) <;> simp [hne]
  rw [e]; exact kk
/-- how many bits -/
def popc : Nat → Nat → Nat
  | 0, _ => 0
  | k + 1, n => n % 2 + popc k (n / 2)
def bcJ (n : Nat) : Nat :=
  (fun v1 => (fun v2 => (fun v3 => (fun v4 => (fun v5 => Nat.land v5 63) (v4 + v4 / 65536)) (v3 + v3 / 256)) (Nat.land (v2 + v2 / 16) 252645135)) (Nat.land v1 858993459 + Nat.land (v1 / 4) 858993459)) (n - Nat.land (n / 2) 1431655765)
theorem land_sp {a b c d : Nat} (hb : b < 256) (hd : d < 256) : Nat.land (256 * a + b) (256 * c + d) = 256 * Nat.land a c + Nat.land b d := by
  show (256 * a + b) &&& (256 * c + d) = 256 * (a &&& c) + (b &&& d)
  have hbd : b &&& d < 2 ^ 8 := Nat.and_lt_two_pow _ hd
  apply Nat.eq_of_testBit_eq
  intro i
  rw [Nat.testBit_and, show (256 : Nat) = 2 ^ 8 from rfl, Nat.testBit_two_pow_mul_add _ hb, Nat.testBit_two_pow_mul_add _ hd, Nat.testBit_two_pow_mul_add _ hbd]
  by_cases q : i < 8
  · rw [if_pos q, if_pos q, if_pos q, Nat.testBit_and]
  · rw [if_neg q, if_neg q, if_neg q, Nat.testBit_and]
def bF1 (x : Nat) : Nat := x - Nat.land (x / 2) 85
def bF2 (x : Nat) : Nat := Nat.land x 51 + Nat.land (x / 4) 51
set_option maxRecDepth 100000 in
theorem byteF : ∀ x, x < 256 → Nat.land (x / 2) 5592405 = Nat.land (x / 2) 85 ∧ Nat.land (x / 2) 85 ≤ x ∧ bF1 x < 256 ∧ Nat.land (bF1 x) 3355443 = Nat.land (bF1 x) 51 ∧ Nat.land (bF1 x / 4) 3355443 = Nat.land (bF1 x / 4) 51 ∧ bF2 (bF1 x) ≤ 68 ∧ bF2 (bF1 x) % 16 ≤ 4 ∧ Nat.land (bF2 (bF1 x) + bF2 (bF1 x) / 16) 986895 = popc 8 x ∧ (bF2 (bF1 x) + bF2 (bF1 x) / 16) % 16 = popc 8 x ∧ popc 8 x ≤ 8 := by decide +kernel
set_option maxRecDepth 100000 in
theorem byteM1 : ∀ b, b < 2 → ∀ y, y < 128 → Nat.land (128 * b + y) 85 = Nat.land y 85 := by decide +kernel
set_option maxRecDepth 100000 in
theorem byteM2 : ∀ b, b < 4 → ∀ y, y < 64 → Nat.land (64 * b + y) 51 = Nat.land y 51 := by decide +kernel
theorem popc_add : ∀ j k n, popc (j + k) n = popc j n + popc k (n / 2 ^ j)
  | 0, k, n => by rw [Nat.zero_add]; show popc k n = 0 + popc k (n / 1); rw [Nat.div_one, Nat.zero_add]
  | j + 1, k, n => by
    rw [show j + 1 + k = (j + k) + 1 by omega]
    show n % 2 + popc (j + k) (n / 2) = n % 2 + popc j (n / 2) + popc k (n / 2 ^ (j + 1))
    rw [popc_add j k, Nat.pow_succ, Nat.mul_comm (2 ^ j) 2, ← Nat.div_div_eq_div_mul]
    omega
theorem popc_mod : ∀ j n, popc j (n % 2 ^ j) = popc j n
  | 0, n => rfl
  | j + 1, n => by
    show n % 2 ^ (j + 1) % 2 + popc j (n % 2 ^ (j + 1) / 2) = n % 2 + popc j (n / 2)
    have h1 : n % 2 ^ (j + 1) % 2 = n % 2 := Nat.mod_mod_of_dvd n ⟨2 ^ j, by rw [Nat.pow_succ, Nat.mul_comm]⟩
    have h2 : n % 2 ^ (j + 1) / 2 = n / 2 % 2 ^ j := by
      rw [Nat.pow_succ, Nat.mul_comm (2 ^ j) 2, Nat.mod_mul_right_div_self]
    rw [h1, h2, popc_mod j]
theorem bcJ_ok {n : Nat} (h : n < 65536) : bcJ n = popc 16 n := by
  obtain ⟨x, y, hx, hy, rfl⟩ : ∃ x y, x < 256 ∧ y < 256 ∧ n = 256 * x + y := ⟨n / 256, n % 256, by omega, by omega, by omega⟩
  obtain ⟨x1, x2, x3, x4, x5, x6, x7, x8, x9, x10⟩ := byteF x hx
  obtain ⟨y1, y2, y3, y4, y5, y6, y7, y8, y9, y10⟩ := byteF y hy
  have p : popc 16 (256 * x + y) = popc 8 x + popc 8 y := by
    rw [show (16 : Nat) = 8 + 8 from rfl, popc_add, ← popc_mod 8 (256 * x + y)]
    rw [show (256 * x + y) % 2 ^ 8 = y by omega, show (256 * x + y) / 2 ^ 8 = x by omega]
    omega
  have s1 : 256 * x + y - Nat.land ((256 * x + y) / 2) 1431655765 = 256 * bF1 x + bF1 y := by
    rw [show (256 * x + y) / 2 = 256 * (x / 2) + (128 * (x % 2) + y / 2) by omega, show (1431655765 : Nat) = 256 * 5592405 + 85 from rfl, land_sp (by omega) (by omega), x1, byteM1 (x % 2) (by omega) (y / 2) (by omega)]
    unfold bF1; omega
  have s2 : Nat.land (256 * bF1 x + bF1 y) 858993459 + Nat.land ((256 * bF1 x + bF1 y) / 4) 858993459 = 256 * bF2 (bF1 x) + bF2 (bF1 y) := by
    generalize hX : bF1 x = X at *
    generalize hY : bF1 y = Y at *
    rw [show (256 * X + Y) / 4 = 256 * (X / 4) + (64 * (X % 4) + Y / 4) by omega, show (858993459 : Nat) = 256 * 3355443 + 51 from rfl, land_sp y3 (by omega), land_sp (by omega) (by omega), x4, x5, byteM2 (X % 4) (by omega) (Y / 4) (by omega)]
    unfold bF2; omega
  have s3 : Nat.land (256 * bF2 (bF1 x) + bF2 (bF1 y) + (256 * bF2 (bF1 x) + bF2 (bF1 y)) / 16) 252645135 = 256 * popc 8 x + popc 8 y := by
    generalize bF2 (bF1 x) = X at *
    generalize bF2 (bF1 y) = Y at *
    rw [show 256 * X + Y + (256 * X + Y) / 16 = 256 * (X + X / 16) + (16 * (X % 16) + (Y + Y / 16)) by omega, show (252645135 : Nat) = 256 * 986895 + 15 from rfl, land_sp (by omega) (by omega), x8]
    have : Nat.land (16 * (X % 16) + (Y + Y / 16)) 15 = (16 * (X % 16) + (Y + Y / 16)) % 2 ^ 4 := Nat.and_two_pow_sub_one_eq_mod _ 4
    rw [this]; omega
  unfold bcJ
  simp only [s1, s2, s3]
  generalize popc 8 x = X at *
  generalize popc 8 y = Y at *
  clear s1 s2 s3 x1 x2 x3 x4 x5 x6 x7 x8 x9 y1 y2 y3 y4 y5 y6 y7 y8 y9
  rw [p, show (256 * X + Y) / 256 = X by omega, show (256 * X + Y + X) / 65536 = 0 by omega]
  have : Nat.land (256 * X + Y + X + 0) 63 = (256 * X + Y + X + 0) % 2 ^ 6 := Nat.and_two_pow_sub_one_eq_mod _ 6
  rw [this]; omega
theorem ushr1 {n : Nat} (h : n < 2 ^ 32) : ((nI n).toUInt32 >>> (Nat.toUInt32 1 &&& Int32.toUInt32 31)).toInt32 = nI (n / 2) := pk_ushrN h 1 1 (by decide)
theorem ushr2 {n : Nat} (h : n < 2 ^ 32) : ((nI n).toUInt32 >>> (Nat.toUInt32 2 &&& Int32.toUInt32 31)).toInt32 = nI (n / 4) := pk_ushrN h 2 2 (by decide)
theorem ushr4 {n : Nat} (h : n < 2 ^ 32) : ((nI n).toUInt32 >>> (Nat.toUInt32 4 &&& Int32.toUInt32 31)).toInt32 = nI (n / 16) := pk_ushrN h 4 4 (by decide)
theorem ushr8 {n : Nat} (h : n < 2 ^ 32) : ((nI n).toUInt32 >>> (Nat.toUInt32 8 &&& Int32.toUInt32 31)).toInt32 = nI (n / 256) := pk_ushrN h 8 8 (by decide)
theorem ushr16 {n : Nat} (h : n < 2 ^ 32) : ((nI n).toUInt32 >>> (Nat.toUInt32 16 &&& Int32.toUInt32 31)).toInt32 = nI (n / 65536) := pk_ushrN h 16 16 (by decide)
theorem j_bc {n : Nat} {h : Hp} {Q : Int32 → Hp → Prop} (hn : n < 65536) (k : Q (nI (popc 16 n)) h) : J6_bitCount_0f7a4 (nI n) h Q := by
  rw [← bcJ_ok hn] at k
  unfold J6_bitCount_0f7a4
  have l1 : Nat.land (n / 2) 1431655765 ≤ n := Nat.le_trans Nat.and_le_left (Nat.div_le_self _ _)
  have e1 : nI n - ((((nI n).toUInt32 >>> (Nat.toUInt32 1 &&& Int32.toUInt32 31)).toInt32) &&& 1431655765) = nI (n - Nat.land (n / 2) 1431655765) := by
    rw [ushr1 (by omega), show (1431655765 : Int32) = nI 1431655765 from rfl, z_and]; exact pk_sub l1
  have b1 : n - Nat.land (n / 2) 1431655765 < 65536 := by omega
  rintro v1 hv1
  rw [e1] at hv1
  subst hv1
  generalize hv : n - Nat.land (n / 2) 1431655765 = v1 at *
  have e2 : (nI v1 &&& 858993459) + ((((nI v1).toUInt32 >>> (Nat.toUInt32 2 &&& Int32.toUInt32 31)).toInt32) &&& 858993459) = nI (Nat.land v1 858993459 + Nat.land (v1 / 4) 858993459) := by
    rw [ushr2 (by omega), show (858993459 : Int32) = nI 858993459 from rfl, z_and, z_and, nI_add]; rfl
  have b2 : Nat.land v1 858993459 + Nat.land (v1 / 4) 858993459 < 131072 := by
    have a1 : Nat.land v1 858993459 ≤ v1 := Nat.and_le_left
    have a2 : Nat.land (v1 / 4) 858993459 ≤ v1 / 4 := Nat.and_le_left
    omega
  rintro v2 hv2
  rw [e2] at hv2
  subst hv2
  generalize hv2 : Nat.land v1 858993459 + Nat.land (v1 / 4) 858993459 = v2 at *
  have e3 : (nI v2 + (((nI v2).toUInt32 >>> (Nat.toUInt32 4 &&& Int32.toUInt32 31)).toInt32)) &&& 252645135 = nI (Nat.land (v2 + v2 / 16) 252645135) := by
    rw [ushr4 (by omega), nI_add, show (252645135 : Int32) = nI 252645135 from rfl, z_and]; rfl
  have b3 : Nat.land (v2 + v2 / 16) 252645135 < 262144 := by
    have a1 : Nat.land (v2 + v2 / 16) 252645135 ≤ v2 + v2 / 16 := Nat.and_le_left
    omega
  rintro v3 hv3
  rw [e3] at hv3
  subst hv3
  generalize hv3 : Nat.land (v2 + v2 / 16) 252645135 = v3 at *
  have e4 : nI v3 + (((nI v3).toUInt32 >>> (Nat.toUInt32 8 &&& Int32.toUInt32 31)).toInt32) = nI (v3 + v3 / 256) := by
    rw [ushr8 (by omega), nI_add]
  rintro v4 hv4
  rw [e4] at hv4
  subst hv4
  have e5 : nI (v3 + v3 / 256) + (((nI (v3 + v3 / 256)).toUInt32 >>> (Nat.toUInt32 16 &&& Int32.toUInt32 31)).toInt32) = nI (v3 + v3 / 256 + (v3 + v3 / 256) / 65536) := by
    rw [ushr16 (by omega), nI_add]
  rintro v5 hv5
  rw [e5] at hv5
  subst hv5
  rw [show (63 : Int32) = nI 63 from rfl, z_and]
  have e6 : bcJ n = Nat.land (v3 + v3 / 256 + (v3 + v3 / 256) / 65536) 63 := by
    unfold bcJ
    simp only [hv, hv2, hv3]
  rw [e6] at k
  exact k
