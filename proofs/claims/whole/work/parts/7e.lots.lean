/-! lots: the first ten -/
theorem popc_s (r n : Nat) : popc (r + 1) n = popc r n + (if n.testBit r = true then 1 else 0) := by
  rw [popc_add r 1 n]
  show popc r n + (n / 2 ^ r % 2 + 0) = _
  rw [z_tb]
  have := Nat.mod_lt (n / 2 ^ r) (show 0 < 2 by decide)
  by_cases e : n / 2 ^ r % 2 = 1
  · rw [decide_eq_true e, if_pos rfl, e]
  · rw [decide_eq_false e, if_neg (by decide)]; omega
theorem popc_mono {n : Nat} : ∀ {r s : Nat}, r ≤ s → popc r n ≤ popc s n
  | r, 0, h => by rw [show r = 0 by omega]; exact Nat.le_refl _
  | r, s + 1, h => by
    by_cases e : r = s + 1
    · subst e; exact Nat.le_refl _
    · have := popc_mono (n := n) (show r ≤ s by omega)
      rw [popc_s]; omega
theorem popc_iv {n i : Nat} : ∀ {r : Nat}, i < popc r n → ∃ q, q < r ∧ n.testBit q = true ∧ popc q n = i
  | 0, h => absurd h (by show ¬ i < 0; omega)
  | r + 1, h => by
    rw [popc_s] at h
    by_cases e : i < popc r n
    · obtain ⟨q, h1, h2⟩ := popc_iv e
      exact ⟨q, by omega, h2⟩
    · by_cases b : n.testBit r = true
      · rw [if_pos b] at h; exact ⟨r, by omega, b, by omega⟩
      · rw [if_neg b] at h; omega
theorem clr_tb {x k : Nat} (hk : x.testBit k = true) (hl : ∀ i, i < k → x.testBit i = false) (i : Nat) : (x &&& (x - 1)).testBit i = (x.testBit i && decide (i ≠ k)) := by
  have e := low_form hk hl
  generalize x / 2 ^ (k + 1) = m at e
  have p2 : 2 ^ (k + 1) = 2 * 2 ^ k := by rw [Nat.pow_succ, Nat.mul_comm]
  have kp := Nat.two_pow_pos k
  have e1 : x = 2 ^ (k + 1) * m + 2 ^ k := by
    rw [e, p2, Nat.mul_add, Nat.mul_one, ← Nat.mul_assoc, Nat.mul_comm (2 ^ k) 2]
  have e2 : x - 1 = 2 ^ (k + 1) * m + (2 ^ k - 1) := by omega
  rw [Nat.testBit_and]
  have t1 : x.testBit i = if i < k + 1 then (2 ^ k).testBit i else m.testBit (i - (k + 1)) := by
    rw [e1, Nat.testBit_two_pow_mul_add _ (by omega)]
  have t2 : (x - 1).testBit i = if i < k + 1 then (2 ^ k - 1).testBit i else m.testBit (i - (k + 1)) := by
    rw [e2, Nat.testBit_two_pow_mul_add _ (by omega)]
  rw [t1, t2]
  by_cases c : i < k + 1
  · rw [if_pos c, if_pos c, Nat.testBit_two_pow, Nat.testBit_two_pow_sub_one]
    by_cases d : k = i
    · subst d; simp
    · simp [d]
  · rw [if_neg c, if_neg c, decide_eq_true (show i ≠ k by omega)]; simp
/-- the bits behind the first i; the first ten -/
def rst (i n : Nat) : Nat := bset (fun r => n.testBit r && decide (i ≤ popc r n)) 16
def drN (n : Nat) : Nat := bset (fun r => n.testBit r && decide (popc r n < 10)) 16
theorem rst_tb {i n r : Nat} : (rst i n).testBit r = true ↔ r < 16 ∧ n.testBit r = true ∧ i ≤ popc r n := by
  unfold rst; rw [bset_tb]; simp
theorem drN_tb {n r : Nat} : (drN n).testBit r = true ↔ r < 16 ∧ n.testBit r = true ∧ popc r n < 10 := by
  unfold drN; rw [bset_tb]; simp
theorem drN_lt (n : Nat) : drN n < 2 ^ 16 := bset_lt _ _
theorem rst_0 {n : Nat} (hn : n < 2 ^ 16) : rst 0 n = n := by
  apply Nat.eq_of_testBit_eq
  intro r
  rw [Bool.eq_iff_iff, rst_tb]
  constructor
  · exact fun h => h.2.1
  · intro h
    refine ⟨?_, h, Nat.zero_le _⟩
    rcases Nat.lt_or_ge r 16 with q | q
    · exact q
    · rw [Nat.testBit_lt_two_pow (Nat.lt_of_lt_of_le hn (Nat.pow_le_pow_right (by decide) q))] at h; cases h
theorem rst_s (i n : Nat) : rst i n &&& (rst i n - 1) = rst (i + 1) n := by
  apply Nat.eq_of_testBit_eq
  intro r
  by_cases z : rst i n = 0
  · rw [z, Nat.zero_and, Nat.zero_testBit]
    symm
    rw [Bool.eq_false_iff]
    intro h
    rw [rst_tb] at h
    have : (rst i n).testBit r = true := rst_tb.mpr ⟨h.1, h.2.1, by omega⟩
    rw [z, Nat.zero_testBit] at this; cases this
  · obtain ⟨k1, k2, k3⟩ := low_nz z (show rst i n < 2 ^ 16 from bset_lt _ _) (by decide)
    rw [clr_tb k2 k3, Bool.eq_iff_iff, Bool.and_eq_true, decide_eq_true_iff, rst_tb, rst_tb]
    generalize low (rst i n) = k at k1 k2 k3
    rw [rst_tb] at k2
    constructor
    · rintro ⟨⟨h1, h2, h3⟩, h4⟩
      refine ⟨h1, h2, ?_⟩
      have kr : k < r := by
        rcases Nat.lt_or_ge r k with q | q
        · have := k3 r q
          rw [rst_tb.mpr ⟨h1, h2, h3⟩] at this; cases this
        · omega
      have := popc_mono (n := n) (show k + 1 ≤ r by omega)
      rw [popc_s, if_pos k2.2.1] at this
      omega
    · rintro ⟨h1, h2, h3⟩
      refine ⟨⟨h1, h2, by omega⟩, ?_⟩
      rintro rfl
      obtain ⟨q, q1, q2, q3⟩ := popc_iv (n := n) (show i < popc r n by omega)
      have := k3 q q1
      rw [rst_tb.mpr ⟨by omega, q2, by omega⟩] at this; cases this
theorem popc_dr {n : Nat} : ∀ {r : Nat}, r ≤ 16 → popc r (drN n) = min 10 (popc r n)
  | 0, _ => rfl
  | r + 1, h => by
    rw [popc_s, popc_s, popc_dr (show r ≤ 16 by omega)]
    by_cases b : n.testBit r = true
    · rw [if_pos b]
      by_cases c : popc r n < 10
      · rw [if_pos (drN_tb.mpr ⟨by omega, b, c⟩)]; omega
      · rw [if_neg (fun e => c (drN_tb.mp e).2.2)]; omega
    · rw [if_neg b, if_neg (fun e => b (drN_tb.mp e).2.1)]; rfl
theorem x_n1 {n : Nat} : nI n ^^^ (-1) = ~~~ (nI n) := by
  apply Int32.toBitVec_inj.1
  show (nI n).toBitVec ^^^ (-1 : Int32).toBitVec = ~~~ (nI n).toBitVec
  rw [show (-1 : Int32).toBitVec = BitVec.allOnes 32 by decide, BitVec.xor_allOnes]
theorem z_andn {a b m : Nat} (hm : ∀ i, m.testBit i = (a.testBit i && !(b.testBit i))) : nI a &&& (nI b ^^^ (-1)) = nI m := by
  rw [x_n1]
  apply Int32.toBitVec_inj.1
  show BitVec.ofNat 32 a &&& ~~~ BitVec.ofNat 32 b = BitVec.ofNat 32 m
  apply BitVec.eq_of_getLsbD_eq
  intro i hi
  rw [BitVec.getLsbD_and, BitVec.getLsbD_not, BitVec.getLsbD_ofNat, BitVec.getLsbD_ofNat, BitVec.getLsbD_ofNat, hm]
  simp [hi]
theorem z_clr (n : Nat) : nI n &&& (nI n - 1) = nI (n &&& (n - 1)) := by
  rcases Nat.eq_zero_or_pos n with e | e
  · subst e; decide
  · rw [show nI n - 1 = nI (n - 1) from pk_sub e, z_and]
theorem c_firstBits {h : Hp} {Q : Int32 → Hp → Prop} {n : Nat} (hn : n < 2 ^ 16) (k : Q (nI (drN n)) h) : Sums_firstBits (nI n) 10 h Q := by
  unfold Sums_firstBits
  have := pk_loop (σ := Unit) (fun n' i _ => Sums_firstBits_L4 (nI n) 10 Q n' (nI (rst i n)) (nI i) h) (fun _ _ => True) 10 0 () (by omega) trivial (fun n' _ _ => ?_) (fun n' i _ hi _ hk => ?_)
  · rw [rst_0 hn] at this; exact this
  · show (10 ≤ nI 10 → _) ∧ (¬ 10 ≤ nI 10 → _)
    refine pk_le 10 10 (fun _ => ?_) (fun c => absurd c (by omega))
    rw [z_andn (m := drN n) (fun i => ?_)]
    · exact k
    · rw [Bool.eq_iff_iff, Bool.and_eq_true, Bool.not_eq_true', drN_tb, Bool.eq_false_iff, Ne, rst_tb]
      constructor
      · rintro ⟨h1, h2, h3⟩; exact ⟨h2, fun q => by omega⟩
      · rintro ⟨h1, h2⟩
        have : i < 16 := by
          rcases Nat.lt_or_ge i 16 with q | q
          · exact q
          · rw [Nat.testBit_lt_two_pow (Nat.lt_of_lt_of_le hn (Nat.pow_le_pow_right (by decide) q))] at h1; cases h1
        refine ⟨this, h1, ?_⟩
        rcases Nat.lt_or_ge (popc i n) 10 with q | q
        · exact q
        · exact absurd ⟨this, h1, q⟩ h2
  · show (10 ≤ nI i → _) ∧ (¬ 10 ≤ nI i → _)
    refine pk_le 10 i (fun c => absurd c (by omega)) (fun _ => ?_)
    rw [z_clr, rst_s]
    rintro _ rfl _ rfl
    rw [nI_1 i]
    exact hk () trivial
/-- lots that are lying, roads drawn -/
def lyL (a : Row) (w p : Nat) : Nat := 10 - popc 16 (drN (obs a w p))
def RLo (a : Row) (w i : Nat) : Nat := bset (fun r => decide (fromA a r < i) && (drN (obs a w (fromA a r))).testBit r) (nR a)
theorem RLo_tb {a : Row} {w i r : Nat} : (RLo a w i).testBit r = true ↔ r < nR a ∧ fromA a r < i ∧ (drN (obs a w (fromA a r))).testBit r = true := by
  unfold RLo; rw [bset_tb]; simp
theorem dr_ob {a : Row} {w p r : Nat} (h : (drN (obs a w p)).testBit r = true) : r < nR a ∧ fromA a r = p ∧ opnA a w r = true := obs_tb.mp (drN_tb.mp h).2.1
theorem RLo_s (a : Row) (w i : Nat) : RLo a w i ||| drN (obs a w i) = RLo a w (i + 1) := by
  apply Nat.eq_of_testBit_eq
  intro r
  rw [Nat.testBit_or, Bool.eq_iff_iff, Bool.or_eq_true, RLo_tb, RLo_tb]
  constructor
  · rintro (⟨h1, h2, h3⟩ | h)
    · exact ⟨h1, by omega, h3⟩
    · obtain ⟨h1, h2, h3⟩ := dr_ob h
      exact ⟨h1, by omega, by rw [h2]; exact h⟩
  · rintro ⟨h1, h2, h3⟩
    by_cases e : fromA a r = i
    · rw [e] at h3; exact Or.inr h3
    · exact Or.inl ⟨h1, by omega, h3⟩
theorem RLo_0 (a : Row) (w : Nat) : RLo a w 0 = 0 := bset_0.mpr (fun r _ => by simp)
theorem c_lots {h0 : Hp} {Q : Hp → Prop} {a : Row} {w : Nat} {c : Nat → Int → Nat} {least : Int} {size : Nat} (L0 : Lnd h0 a) (O : LandOK a) (hw : w < 10) (T : TabR h0 c least size) (hs : 1 ≤ size ∧ size ≤ 991) (hl : -600 ≤ least ∧ least ≤ 0) (k : ∀ h1 l' s', Fp oS h0 h1 → TabR h1 (stepT a w (RLo a w 8) (lyL a w) c) l' s' → least - 99 ≤ l' → l' ≤ least → size ≤ s' → s' ≤ size + 198 → Q h1) : Sums_stepByLots (nI w) h0 Q := by
  have h16 := O.2.1.1
  have rlt : ∀ i, RLo a w i < 2 ^ 16 := fun i => Nat.lt_of_lt_of_le (bset_lt _ _) (Nat.pow_le_pow_right (by omega) h16)
  unfold Sums_stepByLots
  have := pk_loop (σ := Hp) (fun n i h => Sums_stepByLots_L5 (nI w) Q n (nI (RLo a w i)) (nI i) h) (fun i h => Fp (fun o _ => o == 94) h0 h ∧ ∀ q, q < i → gI h 94 q = nI (lyL a w q)) 8 0 h0 (by omega) ⟨Fp.rf _ _, fun q hq => absurd hq (by omega)⟩ (fun n h1 J => ?_) (fun n i h hi J hk => ?_)
  · rw [RLo_0] at this; exact this
  · have F1 : Fp oS h0 h1 := J.1.mo (fun o k h => by
      simp only [oS, Bool.or_eq_false_iff] at h; exact h.1.2)
    show (8 ≤ nI 8 → _) ∧ (¬ 8 ≤ nI 8 → _)
    refine pk_le 8 8 (fun _ => ?_) (fun c => absurd c (by omega))
    refine c_step (oS_k L0 F1) O hw (fun r hr => ?_) (rlt 8) (c := c) (least := least) (size := size) ?_ hs hl J.2 (fun h2 l' s' f2 => k h2 l' s' (F1.tr f2))
    · have := dr_ob (RLo_tb.mp hr).2.2
      exact ⟨this.1, this.2.2⟩
    · obtain ⟨t1, t2, t3, t4⟩ := T
      exact ⟨by rw [J.1.1 92 3 rfl]; exact t1, by rw [J.1.1 92 4 rfl]; exact t2, fun k p hk hp => by rw [J.1.1 93 _ rfl]; exact t3 k p hk hp, t4⟩
  · have F1 : Fp oS h0 h := J.1.mo (fun o k h => by
      simp only [oS, Bool.or_eq_false_iff] at h; exact h.1.2)
    have dl := drN_lt (obs a w i)
    have dp : popc 16 (drN (obs a w i)) ≤ 10 := by rw [popc_dr (Nat.le_refl 16)]; omega
    show (8 ≤ nI i → _) ∧ (¬ 8 ≤ nI i → _)
    refine pk_le 8 i (fun c => absurd c (by omega)) (fun _ => c_openFrom (oS_k L0 F1) O hw hi (c_firstBits (obs_lt O w i) (j_bc (by omega) ⟨pk_in i 8 hi, ?_⟩)))
    rw [cl i, z_or, RLo_s, show (10 : Int32) - nI (popc 16 (drN (obs a w i))) = nI (lyL a w i) from pk_sub dp]
    rintro _ rfl _ rfl _ rfl
    rw [nI_1 i]
    refine hk _ ⟨Fp.sI J.1 rfl, fun q hq => ?_⟩
    by_cases e : q = i
    · subst e; rw [sI_s]
    · rw [sI_k e]; exact J.2 q (by omega)
/-- rows drawn by lots -/
def cL (a : Row) (w t : Nat) : Nat → Nat → Int → Nat
  | 0 => cC a w t 0
  | n + 1 => stepT a w (RLo a w 8) (lyL a w) (cL a w t n)
theorem c_drawLots {h0 : Hp} {Q : Int64 → Hp → Prop} {a : Row} {w t n : Nat} (L0 : Lnd h0 a) (O : LandOK a) (hw : w < 10) (ht : t < 8) (hn : n ≤ 5) (e0 : gI h0 20 0 = nI t) (e3 : gI h0 20 3 = nI w) (k : ∀ h1 l s, Fp oS h0 h1 → TabR h1 (cL a w t n) l s → -594 ≤ l → l ≤ 0 → 1 ≤ s → s ≤ 1189 → Q (lN (10 ^ n)) h1) : C_drawLots (nI n) h0 Q := by
  unfold C_drawLots
  rw [e0]
  refine c_begin ht a w (fun h1 f1 T1 => ?_)
  refine pk_loop (σ := Hp) (fun n' i h => C_drawLots_L19 (nI n) Q n' (lN (10 ^ i)) (nI i) h) (fun i h => Fp oS h0 h ∧ ∃ (l : Int) (s : Nat), TabR h (cL a w t i) l s ∧ -99 * (i : Int) ≤ l ∧ l ≤ 0 ∧ 1 ≤ s ∧ s ≤ 1 + 198 * i) n 0 h1 (by omega) ⟨f1, 0, 1, T1, by omega, by omega, by omega, by omega⟩ (fun n' h2 J => ?_) (fun n' i h hi J hk => ?_)
  · obtain ⟨F, l, s, T, b1, b2, b3, b4⟩ := J
    unfold C_drawLots_L19
    exact pk_le n n (fun _ => k h2 l s F T (by omega) b2 b3 (by omega)) (fun c => absurd c (by omega))
  · obtain ⟨F, l, s, T, b1, b2, b3, b4⟩ := J
    unfold C_drawLots_L19
    refine pk_le n i (fun c => absurd c (by omega)) (fun _ => ?_)
    rw [F.1 20 3 rfl, e3]
    refine c_lots (oS_k L0 F) O hw T ⟨b3, by omega⟩ ⟨by omega, b2⟩ (fun h2 l' s' f2 T2 d1 d2 d3 d4 => ?_)
    rw [l_10 (by omega)]
    rintro _ rfl _ rfl
    rw [nI_1 i]
    exact hk h2 ⟨F.tr f2, l', s', T2, by omega, by omega, by omega, by omega⟩
