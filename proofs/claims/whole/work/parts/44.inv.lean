/-! frames by cells -/
def Fp (S : Nat → Nat → Bool) (h h1 : Hp) : Prop := (∀ o k, S o k = false → gI h1 o k = gI h o k) ∧ ∀ o k, S o k = false → gJ h1 o k = gJ h o k
theorem Fp.rf (S : Nat → Nat → Bool) (h : Hp) : Fp S h h := ⟨fun _ _ _ => rfl, fun _ _ _ => rfl⟩
theorem Fp.tr {S : Nat → Nat → Bool} {h h1 h2 : Hp} (a : Fp S h h1) (b : Fp S h1 h2) : Fp S h h2 := ⟨fun o k q => (b.1 o k q).trans (a.1 o k q), fun o k q => (b.2 o k q).trans (a.2 o k q)⟩
theorem Fp.mo {S T : Nat → Nat → Bool} {h h1 : Hp} (a : Fp S h h1) (hs : ∀ o k, T o k = false → S o k = false) : Fp T h h1 := ⟨fun o k q => a.1 o k (hs o k q), fun o k q => a.2 o k (hs o k q)⟩
theorem Fp.sI {S : Nat → Nat → Bool} {h h1 : Hp} {o k : Nat} {x : Int32} (a : Fp S h h1) (ho : S o k = true) : Fp S h (sI h1 o k x) :=
  ⟨fun p j q => by rw [gI_sI, if_neg (fun e => by rw [e.1, e.2, ho] at q; cases q)]; exact a.1 p j q, fun p j q => a.2 p j q⟩
theorem Fp.sJ {S : Nat → Nat → Bool} {h h1 : Hp} {o k : Nat} {x : Int64} (a : Fp S h h1) (ho : S o k = true) : Fp S h (sJ h1 o k x) :=
  ⟨fun p j q => a.1 p j q, fun p j q => by rw [gJ_sJ, if_neg (fun e => by rw [e.1, e.2, ho] at q; cases q)]; exact a.2 p j q⟩
theorem Fp.sR {S : Nat → Nat → Bool} {h h1 : Hp} {n : Nat} {x : Option Nat} (a : Fp S h h1) : Fp S h (sR h1 n x) := ⟨a.1, a.2⟩
theorem Fp.cI {S : Nat → Nat → Bool} {h h1 : Hp} {o1 sp o2 dp n : Nat} (a : Fp S h h1) (ho : ∀ k, dp ≤ k → k < dp + n → S o2 k = true) : Fp S h (cI h1 o1 sp o2 dp n) :=
  ⟨fun p j q => by rw [gI_cI, if_neg (fun e => by rw [e.1, ho j e.2.1 e.2.2] at q; cases q)]; exact a.1 p j q, fun p j q => a.2 p j q⟩
theorem Fr.fp {S : Nat → Bool} {T : Nat → Nat → Bool} {h h1 : Hp} (a : Fr S h h1) (hs : ∀ o k, T o k = false → S o = false) : Fp T h h1 := ⟨fun o k q => a.1 o k (hs o k q), fun o k q => a.2 o k (hs o k q)⟩
/-- what a call of the class may use as it likes; what a call of the reference may -/
def scC : Nat → Nat → Bool := fun o _ => o == 22 || o == 23 || (decide (73 ≤ o) && decide (o ≤ 79)) || (decide (86 ≤ o) && decide (o ≤ 96))
def scM : Nat → Nat → Bool := fun o k => (o == 98 && !(k == 5 || k == 13 || k == 14)) || (decide (102 ≤ o) && decide (o ≤ 123))
theorem scM_W (o k : Nat) (h : scM o k = false) : oW o = false := by
  simp only [scM, Bool.or_eq_false_iff, Bool.and_eq_false_iff, decide_eq_false_iff_not] at h
  simp only [oW, Bool.and_eq_false_iff, decide_eq_false_iff_not]
  omega
/-! branches -/
theorem brT {c A B : Prop} (hc : c) (a : A) : (c → A) ∧ (¬ c → B) := ⟨fun _ => a, fun q => absurd hc q⟩
theorem brF {c A B : Prop} (hc : ¬ c) (b : B) : (c → A) ∧ (¬ c → B) := ⟨fun q => absurd q hc, fun _ => b⟩
theorem brT' {c A B : Prop} (hc : c) (a : A) : (¬ c → B) ∧ (c → A) := ⟨fun q => absurd hc q, fun _ => a⟩
theorem brF' {c A B : Prop} (hc : ¬ c) (b : B) : (¬ c → B) ∧ (c → A) := ⟨fun _ => b, fun q => absurd q hc⟩
/-! the land as the class has it -/
def LndR (h : Hp) (o f t l op ps : Nat) (a : Row) : Prop := gI h o 0 = a 1 ∧ gI h o 1 = a 3 ∧ gI h o 2 = a 2 ∧ gI h o 3 = a 0 ∧ (∀ r, r < nR a → gI h f r = a (10 + r) ∧ gI h t r = a (26 + r)) ∧ (∀ p, p < 8 → gI h l p = nI (bset (fun r => fromA a r == p) (nR a))) ∧ (∀ w, w < 10 → gI h op w = nI (bset (opnA a w) (nR a))) ∧ ∀ w r, w < 10 → r < nR a → gI h ps (16 * w + r) = payA a w r
def Lnd (h : Hp) (a : Row) : Prop := LndR h 14 15 16 17 18 19 a
/-- a stand: token, purse, moves, weather, plans -/
def StdOK (a : Row) (s : Row) (B : Int) : Prop := (∃ t, t < nP a ∧ s 0 = nI t) ∧ (∃ w, w < 10 ∧ s 3 = nI w) ∧ (∀ p, p < 8 → s (4 + p) = -1 ∨ ∃ r, r < nR a ∧ s (4 + p) = nI r ∧ fromA a r = p) ∧ (-B ≤ (s 1).toInt ∧ (s 1).toInt ≤ B)
def StdR (h : Hp) (o pl : Nat) (s : Row) : Prop := gI h o 0 = s 0 ∧ gJ h o 1 = (s 1).toInt64 ∧ gI h o 2 = s 2 ∧ gI h o 3 = s 3 ∧ ∀ p, p < 8 → gI h pl p = s (4 + p)
section LEAVES
variable {h : Hp} {a : Row} {Q : Int32 → Hp → Prop}
theorem c_plY (L : Lnd h a) (O : LandOK a) {p : Nat} (hp : p < nP a) (k : Q 1 h) : Land_hasPlace (nI p) h Q := by
  obtain ⟨⟨_, h8, e1⟩, -⟩ := O
  unfold Land_hasPlace
  rw [L.1, e1]
  exact brF (nI_pos (by omega)) (pk_le (nP a) p (fun q => absurd q (by omega)) (fun _ => pk_le 8 p (fun q => absurd q (by omega)) (fun _ => k)))
theorem c_plN (L : Lnd h a) (O : LandOK a) {x : Int32} (hx : ¬ ∃ p, p < nP a ∧ x = nI p) (k : Q 0 h) : Land_hasPlace x h Q := by
  obtain ⟨⟨_, h8, e1⟩, -⟩ := O
  unfold Land_hasPlace
  rw [L.1, e1]
  refine ⟨fun _ => k, fun q => ⟨fun _ => k, fun q2 => absurd ?_ hx⟩⟩
  obtain ⟨j, hj, rfl⟩ := nI_of q
  refine ⟨j, ?_, rfl⟩
  rw [nI_leI (by omega) hj] at q2
  omega
theorem c_rdY (L : Lnd h a) (O : LandOK a) {r : Nat} (hr : r < nR a) (k : Q 1 h) : Land_hasRoad (nI r) h Q := by
  obtain ⟨-, ⟨h16, e2⟩, -⟩ := O
  unfold Land_hasRoad
  rw [L.2.2.1, e2]
  exact brF (nI_pos (by omega)) (pk_le (nR a) r (fun q => absurd q (by omega)) (fun _ => pk_le 16 r (fun q => absurd q (by omega)) (fun _ => k)))
theorem c_rdN (L : Lnd h a) (O : LandOK a) {x : Int32} (hx : ¬ ∃ r, r < nR a ∧ x = nI r) (k : Q 0 h) : Land_hasRoad x h Q := by
  obtain ⟨-, ⟨h16, e2⟩, -⟩ := O
  unfold Land_hasRoad
  rw [L.2.2.1, e2]
  refine ⟨fun _ => k, fun q => ⟨fun _ => k, fun q2 => absurd ?_ hx⟩⟩
  obtain ⟨j, hj, rfl⟩ := nI_of q
  refine ⟨j, ?_, rfl⟩
  rw [nI_leI (by omega) hj] at q2
  omega
theorem c_wea {w : Nat} (hw : w < 10) (k : Q 1 h) : C_isWeather (nI w) h Q := by
  unfold C_isWeather
  exact brF (nI_pos (by omega)) (pk_le 10 w (fun q => absurd q (by omega)) (fun _ => k))
theorem c_weaN {x : Int32} (hx : ¬ ∃ w, w < 10 ∧ x = nI w) (k : Q 0 h) : C_isWeather x h Q := by
  unfold C_isWeather
  refine ⟨fun _ => k, fun q => ⟨fun _ => k, fun q2 => absurd ?_ hx⟩⟩
  obtain ⟨j, hj, rfl⟩ := nI_of q
  refine ⟨j, ?_, rfl⟩
  have q2 : ¬ nI 10 ≤ nI j := q2
  rw [nI_leI (by omega) hj] at q2
  omega
theorem c_openRoads (L : Lnd h a) {w : Nat} (hw : w < 10) (k : Q (nI (bset (opnA a w) (nR a))) h) : Land_openRoads (nI w) h Q := by
  unfold Land_openRoads
  refine brF (nI_pos (by omega)) (pk_le 10 w (fun q => absurd q (by omega)) (fun _ => ⟨pk_in w 10 hw, ?_⟩))
  rw [pk_cl w, L.2.2.2.2.2.2.1 w hw]
  exact k
theorem bset_and (f g : Nat → Bool) (n : Nat) : bset f n &&& bset g n = bset (fun r => f r && g r) n := by
  apply Nat.eq_of_testBit_eq
  intro i
  rw [Nat.testBit_and, bset_tb, bset_tb, bset_tb]
  cases decide (i < n) <;> simp
theorem obs_0 (O : LandOK a) {w p : Nat} (hp : nP a ≤ p) : obs a w p = 0 := by
  obtain ⟨-, -, hft, -⟩ := O
  refine bset_0.mpr (fun r hr => ?_)
  have := (hft r hr).1.2
  simp only [Bool.and_eq_false_iff, beq_eq_false_iff_ne]
  exact Or.inl (by omega)
theorem obs_lt (O : LandOK a) (w p : Nat) : obs a w p < 2 ^ 16 := Nat.lt_of_lt_of_le (bset_lt _ _) (Nat.pow_le_pow_right (by decide) O.2.1.1)
theorem obs_tb {w p i : Nat} : (obs a w p).testBit i = true ↔ i < nR a ∧ fromA a i = p ∧ opnA a w i = true := by
  unfold obs
  rw [bset_tb]
  simp only [Bool.and_eq_true, decide_eq_true_iff, beq_iff_eq]
theorem c_openFrom (L : Lnd h a) (O : LandOK a) {w p : Nat} (hw : w < 10) (hp : p < 8) (k : Q (nI (obs a w p)) h) : Land_openFrom (nI w) (nI p) h Q := by
  unfold Land_openFrom
  by_cases hpp : p < nP a
  · refine c_plY L O hpp (brF (by decide) ⟨pk_in p 8 hp, c_openRoads L hw ?_⟩)
    rw [pk_cl p, L.2.2.2.2.2.1 p hp, z_and, bset_and]
    exact k
  · rw [obs_0 O (by omega)] at k
    refine c_plN L O ?_ (brT rfl k)
    rintro ⟨q, h1, h2⟩
    rw [nI_eq (by omega) (by have := O.1.2.1; omega)] at h2
    omega
theorem c_isOpen (L : Lnd h a) (O : LandOK a) {w r : Nat} (hw : w < 10) (hr : r < nR a) (k : Q (if opnA a w r then 1 else 0) h) : Land_isOpen (nI w) (nI r) h Q := by
  have h16 := O.2.1.1
  unfold Land_isOpen
  refine c_rdY L O hr (brF (by decide) (c_openRoads L hw ?_))
  have hl : bset (opnA a w) (nR a) < 2 ^ 31 := Nat.lt_of_lt_of_le (bset_lt _ _) (Nat.pow_le_pow_right (by decide) (by omega))
  rw [z_bit hl (by omega), bset_tb]
  simp only [hr, decide_true, Bool.true_and]
  cases ho : opnA a w r
  · rw [ho] at k; exact ⟨fun _ => k, fun q => by cases q⟩
  · rw [ho] at k; exact ⟨fun q => absurd rfl q, fun _ => k⟩
theorem c_isOpenN (L : Lnd h a) (O : LandOK a) {x y : Int32} (hx : ¬ ∃ r, r < nR a ∧ x = nI r) (k : Q 0 h) : Land_isOpen y x h Q := by
  unfold Land_isOpen
  exact c_rdN L O hx (brT rfl k)
/-- the ways as the class has them: 16 for staying -/
def cwy (a : Row) (w p : Nat) : Nat := if obs a w p = 0 then 65536 else obs a w p
theorem cwy_lt (O : LandOK a) (w p : Nat) : cwy a w p < 2 ^ 17 := by
  have := obs_lt O w p
  unfold cwy
  split <;> omega
theorem c_waysFrom (L : Lnd h a) (O : LandOK a) {w p : Nat} (hw : w < 10) (hp : p < 8) (k : Q (nI (cwy a w p)) h) : Land_waysFrom (nI w) (nI p) h Q := by
  unfold Land_waysFrom
  refine c_openFrom L O hw hp ?_
  have := obs_lt O w p
  rw [show (0 : Int32) = nI 0 from rfl, nI_eq (by omega) (by decide)]
  unfold cwy at k
  by_cases q : obs a w p = 0
  · rw [if_pos q] at k; exact ⟨fun e => absurd q e, fun _ => k⟩
  · rw [if_neg q] at k; exact ⟨fun _ => k, fun e => absurd e q⟩
theorem c_payOf (L : Lnd h a) (O : LandOK a) {w r : Nat} (hw : w < 10) (hr : r < nR a) (k : Q (payA a w r) h) : Land_payOf (nI w) (nI r) h Q := by
  have h16 := O.2.1.1
  unfold Land_payOf
  refine c_rdY L O hr (brF (by decide) (c_wea hw (brF (by decide) ?_)))
  have e : nI w * 16 + nI r = nI (16 * w + r) := by
    show nI w * nI 16 + nI r = _
    rw [pk_mul, nI_add]; congr 1; omega
  rw [e]
  refine ⟨pk_in (16 * w + r) 160 (by omega), ?_⟩
  rw [pk_cl (16 * w + r), L.2.2.2.2.2.2.2 w r hw hr]
  exact k
theorem c_payOfN (L : Lnd h a) (O : LandOK a) {x y : Int32} (hx : ¬ ∃ r, r < nR a ∧ x = nI r) (k : Q 0 h) : Land_payOf y x h Q := by
  unfold Land_payOf
  exact c_rdN L O hx (brT rfl k)
theorem c_target (L : Lnd h a) (O : LandOK a) {x : Int32} {r : Nat} (hr : r < nR a) (k : Q (nI (toA a r)) h) : Land_target x (nI r) h Q := by
  have h16 := O.2.1.1
  unfold Land_target
  refine c_rdY L O hr (brF (by decide) ⟨pk_in r 16 (by omega), ?_⟩)
  rw [pk_cl r, (L.2.2.2.2.1 r hr).2, (O.2.2.1 r hr).2.1]
  exact k
theorem c_targetN (L : Lnd h a) (O : LandOK a) {x y : Int32} (hx : ¬ ∃ r, r < nR a ∧ x = nI r) (k : Q y h) : Land_target y x h Q := by
  unfold Land_target
  exact c_rdN L O hx (brT rfl k)
theorem noRoad (O : LandOK a) {r : Nat} (hr : nR a ≤ r) (h31 : r < 2 ^ 31) : ¬ ∃ r', r' < nR a ∧ nI r = nI r' := by
  rintro ⟨q, h1, h2⟩
  rw [nI_eq h31 (by have := O.2.1.1; omega)] at h2
  omega
theorem c_owner (L : Lnd h a) (O : LandOK a) {p : Nat} (hp : p < 8) (k : ∀ m, a 3 = nI m → m < 2 ^ nP a → Q (if m.testBit p then 1 else 0) h) : Land_owner (nI p) h Q := by
  obtain ⟨m, hm, hl⟩ := O.2.2.2.2.2
  have h8 := O.1.2.1
  have hm31 : m < 2 ^ 31 := Nat.lt_of_lt_of_le hl (Nat.pow_le_pow_right (by decide) (by omega))
  have := k m hm hl
  unfold Land_owner
  rw [L.2.1, hm]
  by_cases q : m.testBit p = true
  · rw [if_pos q] at this; rw [(z_bit hm31 (by omega)).mpr q]; exact this
  · rw [if_neg q] at this; rw [(z_bit0 hm31 (by omega)).mpr (Bool.eq_false_iff.mpr q)]; exact this
end LEAVES
/-- who owns a place: 1 mine -/
def mnA (a : Row) (p : Nat) : Bool := (a 3).toInt.toNat.testBit p
theorem c_own {h : Hp} {a : Row} {Q : Int32 → Hp → Prop} (L : Lnd h a) (O : LandOK a) {p : Nat} (hp : p < 8) (k : Q (if mnA a p then 1 else 0) h) : Land_owner (nI p) h Q := by
  refine c_owner L O hp (fun m hm hl => ?_)
  have h8 := O.1.2.1
  have hm31 : m < 2 ^ 31 := Nat.lt_of_lt_of_le hl (Nat.pow_le_pow_right (by decide) (by omega))
  have e : (a 3).toInt.toNat = m := by rw [hm, nI_toInt hm31]; rfl
  unfold mnA at k
  rw [e] at k
  exact k
