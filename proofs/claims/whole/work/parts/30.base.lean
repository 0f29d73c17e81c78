/-! the pure world: reading what was written -/
theorem gI_sI (h : Hp) (o k : Nat) (x : Int32) (a b : Nat) : gI (sI h o k x) a b = if a = o ∧ b = k then x else gI h a b := rfl
theorem gJ_sI (h : Hp) (o k : Nat) (x : Int32) (a b : Nat) : gJ (sI h o k x) a b = gJ h a b := rfl
theorem gR_sI (h : Hp) (o k : Nat) (x : Int32) (a : Nat) : gR (sI h o k x) a = gR h a := rfl
theorem gI_sJ (h : Hp) (o k : Nat) (x : Int64) (a b : Nat) : gI (sJ h o k x) a b = gI h a b := rfl
theorem gJ_sJ (h : Hp) (o k : Nat) (x : Int64) (a b : Nat) : gJ (sJ h o k x) a b = if a = o ∧ b = k then x else gJ h a b := rfl
theorem gR_sJ (h : Hp) (o k : Nat) (x : Int64) (a : Nat) : gR (sJ h o k x) a = gR h a := rfl
theorem gI_sR (h : Hp) (n : Nat) (x : Option Nat) (a b : Nat) : gI (sR h n x) a b = gI h a b := rfl
theorem gJ_sR (h : Hp) (n : Nat) (x : Option Nat) (a b : Nat) : gJ (sR h n x) a b = gJ h a b := rfl
theorem gR_sR (h : Hp) (n : Nat) (x : Option Nat) (a : Nat) : gR (sR h n x) a = if a = n then x else gR h a := rfl
theorem gI_cI (h : Hp) (o1 sp o2 dp n a b : Nat) : gI (cI h o1 sp o2 dp n) a b = if a = o2 ∧ dp ≤ b ∧ b < dp + n then gI h o1 (sp + (b - dp)) else gI h a b := rfl
theorem gJ_cI (h : Hp) (o1 sp o2 dp n a b : Nat) : gJ (cI h o1 sp o2 dp n) a b = gJ h a b := rfl
theorem gR_cI (h : Hp) (o1 sp o2 dp n a : Nat) : gR (cI h o1 sp o2 dp n) a = gR h a := rfl
theorem sI_s (h : Hp) (o k : Nat) (x : Int32) : gI (sI h o k x) o k = x := by rw [gI_sI, if_pos ⟨rfl, rfl⟩]
theorem sI_o {h : Hp} {o k : Nat} {x : Int32} {a b : Nat} (ha : a ≠ o) : gI (sI h o k x) a b = gI h a b := by rw [gI_sI, if_neg (fun q => ha q.1)]
theorem sI_k {h : Hp} {o k : Nat} {x : Int32} {a b : Nat} (hb : b ≠ k) : gI (sI h o k x) a b = gI h a b := by rw [gI_sI, if_neg (fun q => hb q.2)]
theorem sJ_s (h : Hp) (o k : Nat) (x : Int64) : gJ (sJ h o k x) o k = x := by rw [gJ_sJ, if_pos ⟨rfl, rfl⟩]
theorem sJ_o {h : Hp} {o k : Nat} {x : Int64} {a b : Nat} (ha : a ≠ o) : gJ (sJ h o k x) a b = gJ h a b := by rw [gJ_sJ, if_neg (fun q => ha q.1)]
theorem sJ_k {h : Hp} {o k : Nat} {x : Int64} {a b : Nat} (hb : b ≠ k) : gJ (sJ h o k x) a b = gJ h a b := by rw [gJ_sJ, if_neg (fun q => hb q.2)]
/-- h1 is h but for the objects that S names -/
def Fr (S : Nat → Bool) (h h1 : Hp) : Prop := (∀ o k, S o = false → gI h1 o k = gI h o k) ∧ (∀ o k, S o = false → gJ h1 o k = gJ h o k)
theorem Fr.rf (S : Nat → Bool) (h : Hp) : Fr S h h := ⟨fun _ _ _ => rfl, fun _ _ _ => rfl⟩
theorem Fr.tr {S : Nat → Bool} {h h1 h2 : Hp} (a : Fr S h h1) (b : Fr S h1 h2) : Fr S h h2 := ⟨fun o k q => (b.1 o k q).trans (a.1 o k q), fun o k q => (b.2 o k q).trans (a.2 o k q)⟩
theorem Fr.mo {S T : Nat → Bool} {h h1 : Hp} (a : Fr S h h1) (hs : ∀ o, T o = false → S o = false) : Fr T h h1 := ⟨fun o k q => a.1 o k (hs o q), fun o k q => a.2 o k (hs o q)⟩
theorem Fr.sI {S : Nat → Bool} {h h1 : Hp} {o k : Nat} {x : Int32} (a : Fr S h h1) (ho : S o = true) : Fr S h (sI h1 o k x) :=
  ⟨fun p j q => by rw [sI_o (fun e => by rw [e, ho] at q; cases q)]; exact a.1 p j q, fun p j q => a.2 p j q⟩
theorem Fr.sJ {S : Nat → Bool} {h h1 : Hp} {o k : Nat} {x : Int64} (a : Fr S h h1) (ho : S o = true) : Fr S h (sJ h1 o k x) :=
  ⟨fun p j q => a.1 p j q, fun p j q => by rw [sJ_o (fun e => by rw [e, ho] at q; cases q)]; exact a.2 p j q⟩
theorem Fr.cI {S : Nat → Bool} {h h1 : Hp} {o1 sp o2 dp n : Nat} (a : Fr S h h1) (ho : S o2 = true) : Fr S h (cI h1 o1 sp o2 dp n) :=
  ⟨fun p j q => by rw [gI_cI, if_neg (fun e => by rw [e.1, ho] at q; cases q)]; exact a.1 p j q, fun p j q => a.2 p j q⟩
/-! truth as a number -/
def b2 (p : Prop) [Decidable p] : Int32 := if p then 1 else 0
theorem b2_0 {p : Prop} [Decidable p] : b2 p = 0 ↔ ¬ p := by unfold b2; by_cases h : p <;> simp [h]
theorem b2_1 {p : Prop} [Decidable p] : b2 p = 1 ↔ p := by unfold b2; by_cases h : p <;> simp [h]
theorem b2_n {p : Prop} [Decidable p] : ¬ b2 p = 0 ↔ p := by unfold b2; by_cases h : p <;> simp [h]
theorem b2_B {p : Prop} [Decidable p] : isB (b2 p) := by unfold b2 isB; by_cases h : p <;> simp [h]
theorem b2_t {p : Prop} [Decidable p] (h : p) : b2 p = 1 := b2_1.mpr h
theorem b2_f {p : Prop} [Decidable p] (h : ¬ p) : b2 p = 0 := b2_0.mpr h
theorem b2_c {p q : Prop} [Decidable p] [Decidable q] (h : p ↔ q) : b2 p = b2 q := by unfold b2; by_cases h1 : p <;> simp [h1, ← h]
/-! numbers -/
theorem nI_i (x : Int32) (h : 0 ≤ x.toInt) : x = nI x.toInt.toNat := by
  have h1 := Int32.toInt_lt x
  apply Int32.toInt_inj.mp
  rw [nI_toInt (by omega)]
  omega
theorem i_lt {a b : Int32} : a < b ↔ a.toInt < b.toInt := Int32.lt_iff_toInt_lt
theorem i_le {a b : Int32} : a ≤ b ↔ a.toInt ≤ b.toInt := Int32.le_iff_toInt_le
theorem i_eq {a b : Int32} : a = b ↔ a.toInt = b.toInt := Int32.toInt_inj.symm
theorem l_lt {a b : Int64} : a < b ↔ a.toInt < b.toInt := Int64.lt_iff_toInt_lt
theorem l_le {a b : Int64} : a ≤ b ↔ a.toInt ≤ b.toInt := Int64.le_iff_toInt_le
theorem l_eq {a b : Int64} : a = b ↔ a.toInt = b.toInt := Int64.toInt_inj.symm
theorem i_bd (a : Int32) : -2147483648 ≤ a.toInt ∧ a.toInt < 2147483648 := ⟨Int32.le_toInt a, Int32.toInt_lt a⟩
theorem l_bd (a : Int64) : -9223372036854775808 ≤ a.toInt ∧ a.toInt < 9223372036854775808 := ⟨Int64.le_toInt a, Int64.toInt_lt a⟩
theorem bm32 {x : Int} (h : -2147483648 ≤ x ∧ x < 2147483648) : x.bmod (2 ^ 32) = x := by
  rw [Int.bmod_eq_of_le] <;> omega
theorem bm64 {x : Int} (h : -9223372036854775808 ≤ x ∧ x < 9223372036854775808) : x.bmod (2 ^ 64) = x := by
  rw [Int.bmod_eq_of_le] <;> omega
theorem i_add {a b : Int32} (h : -2147483648 ≤ a.toInt + b.toInt ∧ a.toInt + b.toInt < 2147483648) : (a + b).toInt = a.toInt + b.toInt := by rw [Int32.toInt_add, bm32 h]
theorem i_sub {a b : Int32} (h : -2147483648 ≤ a.toInt - b.toInt ∧ a.toInt - b.toInt < 2147483648) : (a - b).toInt = a.toInt - b.toInt := by rw [Int32.toInt_sub, bm32 h]
theorem i_mul {a b : Int32} (h : -2147483648 ≤ a.toInt * b.toInt ∧ a.toInt * b.toInt < 2147483648) : (a * b).toInt = a.toInt * b.toInt := by rw [Int32.toInt_mul, bm32 h]
theorem l_add {a b : Int64} (h : -9223372036854775808 ≤ a.toInt + b.toInt ∧ a.toInt + b.toInt < 9223372036854775808) : (a + b).toInt = a.toInt + b.toInt := by rw [Int64.toInt_add, bm64 h]
theorem l_sub {a b : Int64} (h : -9223372036854775808 ≤ a.toInt - b.toInt ∧ a.toInt - b.toInt < 9223372036854775808) : (a - b).toInt = a.toInt - b.toInt := by rw [Int64.toInt_sub, bm64 h]
theorem l_mul {a b : Int64} (h : -9223372036854775808 ≤ a.toInt * b.toInt ∧ a.toInt * b.toInt < 9223372036854775808) : (a * b).toInt = a.toInt * b.toInt := by rw [Int64.toInt_mul, bm64 h]
theorem i_l (a : Int32) : a.toInt64.toInt = a.toInt := Int32.toInt_toInt64 a
theorem l_i {a : Int64} (h : -2147483648 ≤ a.toInt ∧ a.toInt < 2147483648) : a.toInt32.toInt = a.toInt := by rw [Int64.toInt_toInt32, bm32 h]
