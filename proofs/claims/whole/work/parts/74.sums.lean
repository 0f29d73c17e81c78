/-! a step of the table -/
def oS : Nat → Nat → Bool := fun o _ => o == 92 || o == 93 || o == 94 || o == 95
def oA95 : Nat → Nat → Bool := fun o _ => o == 95
theorem oS_A (o k : Nat) (h : oS o k = false) : oA95 o k = false := by
  simp only [oS, Bool.or_eq_false_iff] at h; exact h.2
theorem oS_k {h0 h : Hp} {a : Row} (L : Lnd h0 a) (F : Fp oS h0 h) : Lnd h a := Lnd_k L (fun o j h1 h2 => F.1 o j (by
  simp only [oS, Bool.or_eq_false_iff, beq_eq_false_iff_ne]; omega))
theorem c_line {h0 : Hp} {K : Hp → Prop} {a : Row} {w R m : Nat} {x4 x5 : Int32} {ly : Nat → Nat} {c : Nat → Int → Nat} {least : Int} {size : Nat} (L0 : Lnd h0 a) (O : LandOK a) (hw : w < 10) (hR : ∀ r, R.testBit r = true → r < nR a ∧ opnA a w r = true) (hR16 : R < 2 ^ 16) (hs : size ≤ 1189) (hm : m < 1189) (es : gI h0 92 4 = nI size) (lo1 : -99 ≤ x4.toInt ∧ x4.toInt ≤ 0) (lo2 : ∀ r, r < nR a → opnA a w r = true → x4.toInt ≤ (payA a w r).toInt) (old : ∀ j p, j < size → j ≤ m → p < 8 → gI h0 93 (j * 8 + p) = nI (c p (least + j))) (sup : ∀ p s, p < 8 → (s < least ∨ least + size ≤ s) → c p s = 0) (e94 : ∀ p, p < 8 → gI h0 94 p = nI (ly p)) (k : ∀ h1, Fp oA95 h0 h1 → (∀ q, q < 8 → gI h1 95 q = nI (stepT a w R ly c q (least + x4.toInt + m))) → K h1) : ∃ n14, Sums_step_L42 (nI w) (nI R) x4 x5 (nI m) (fun h15 => ∃ n21, Sums_step_L84 (nI w) (nI R) x4 x5 (nI m) K n21 0 h15) n14 0 h0 := by
  have h8 := O.1.2.1
  have h16 := O.2.1.1
  have LL : ∀ {h : Hp}, Fp oA95 h0 h → Lnd h a := fun F => oS_k L0 (F.mo oS_A)
  have rd : ∀ {h : Hp} {Q : Int32 → Hp → Prop} {x : Int32} {p : Nat}, Fp oA95 h0 h → p < 8 → x.toInt ≤ m → Q (nI (c p (least + x.toInt))) h → Sums_rowsAt x (nI p) h Q := fun {h Q x p} F hp hx r => by
    refine c_rowsAt (size := size) ((F.1 92 4 rfl).trans es) hs hp (fun j hj e => ?_) (fun q => ?_) r
    · rw [F.1 93 _ rfl, old j p hj (by omega) hp, e]
    · rw [sup p _ hp (by omega)]; rfl
  have mi : (nI m).toInt = m := nI_toInt (by omega)
  have ex : (nI m + x4).toInt = m + x4.toInt := by rw [i_add (by rw [mi]; omega), mi]
  obtain ⟨tm, htm⟩ : ∃ tm : Nat → Nat → Nat, ∀ q r, (if R.testBit r = true ∧ toA a r = q then c (fromA a r) (least + x4.toInt + m - (payA a w r).toInt) else 0) = tm q r := ⟨_, fun _ _ => rfl⟩
  have hst : ∀ q, stepT a w R ly c q (least + x4.toInt + m) = ly q * c q (least + x4.toInt + m) + smN (tm q) 16 := fun q => by
    unfold stepT
    rw [show (fun r => if R.testBit r = true ∧ toA a r = q then c (fromA a r) (least + x4.toInt + m - (payA a w r).toInt) else 0) = tm q from funext (fun r => htm q r)]
  refine pk_loop (σ := Hp) (fun n i h => Sums_step_L42 (nI w) (nI R) x4 x5 (nI m) (fun h15 => ∃ n21, Sums_step_L84 (nI w) (nI R) x4 x5 (nI m) K n21 0 h15) n (nI i) h) (fun i h => Fp oA95 h0 h ∧ ∀ q, q < i → gI h 95 q = nI (ly q * c q (least + x4.toInt + m))) 8 0 h0 (by omega) ⟨Fp.rf _ _, fun q hq => absurd hq (by omega)⟩ (fun n h1 J => ?_) (fun n i h hi J hk => ?_)
  · unfold Sums_step_L42
    refine pk_le 8 8 (fun _ => ?_) (fun c => absurd c (by omega))
    refine pk_loop (σ := Hp) (fun n i h => Sums_step_L84 (nI w) (nI R) x4 x5 (nI m) K n (nI i) h) (fun i h => Fp oA95 h0 h ∧ ∀ q, q < 8 → gI h 95 q = nI (ly q * c q (least + x4.toInt + m) + smN (tm q) i)) 16 0 h1 (by omega) ⟨J.1, fun q hq => J.2 q hq⟩ (fun n h2 J => ?_) (fun n i h hi J hk => ?_)
    · unfold Sums_step_L84
      refine pk_le 16 16 (fun _ => ?_) (fun c => absurd c (by omega))
      exact k h2 J.1 (fun q hq => by rw [hst]; exact J.2 q hq)
    · unfold Sums_step_L84
      refine pk_le 16 i (fun c => absurd c (by omega)) (fun _ => ?_)
      rintro J121 rfl
      rw [z_bit (by omega) (by omega)]
      refine ⟨fun b => ?_, fun b => ?_⟩
      · rintro _ rfl
        rw [nI_1 i]
        refine hk h ⟨J.1, fun q hq => ?_⟩
        have : smN (tm q) (i + 1) = smN (tm q) i := by
          show smN (tm q) i + tm q i = _
          rw [← htm, if_neg (fun e => b e.1)]; rfl
        rw [this]; exact J.2 q hq
      · obtain ⟨r1, r2⟩ := hR i b
        obtain ⟨⟨f1, f2⟩, g1, g2⟩ := O.2.2.1 i r1
        have Lh := LL J.1
        refine c_payOf Lh O hw r1 ?_
        have pb := payA_bd a w i
        have pl := lo2 i r1 r2
        have ey : (nI m + x4 - payA a w i).toInt = m + x4.toInt - (payA a w i).toInt := by rw [i_sub (by rw [ex]; omega), ex]
        unfold Sums_arrive
        refine c_target Lh O r1 (brF (nI_pos (by omega)) (pk_le 8 (toA a i) (fun c => absurd c (by omega)) (fun _ => c_rdY Lh O r1 (brF (by decide) ⟨pk_in (toA a i) 8 (by omega), pk_in i 16 (by omega), ?_⟩))))
        rw [cl i, (Lh.2.2.2.2.1 i r1).1, f1, cl (toA a i)]
        refine rd J.1 (by omega) (by omega) ⟨pk_in (toA a i) 8 (by omega), ?_⟩
        rintro _ rfl _ rfl
        rw [nI_1 i]
        refine hk _ ⟨Fp.sI J.1 rfl, fun q hq => ?_⟩
        show _ = nI (ly q * c q (least + x4.toInt + m) + (smN (tm q) i + tm q i))
        rw [← htm]
        by_cases e : q = toA a i
        · subst e
          rw [sI_s, J.2 _ hq, nI_add, if_pos ⟨b, rfl⟩, ey, show least + (m + x4.toInt - (payA a w i).toInt) = least + x4.toInt + m - (payA a w i).toInt by omega, Nat.add_assoc]
        · rw [sI_k e, J.2 q hq, if_neg (fun z => e z.2.symm)]; rfl
  · unfold Sums_step_L42
    refine pk_le 8 i (fun c => absurd c (by omega)) (fun _ => ⟨pk_in i 8 hi, rd J.1 hi (by omega) ⟨pk_in i 8 hi, ?_⟩⟩)
    rw [cl i, J.1.1 94 i rfl, e94 i hi, pk_mul, ex]
    rintro _ rfl _ rfl
    rw [nI_1 i]
    refine hk _ ⟨Fp.sI J.1 rfl, fun q hq => ?_⟩
    by_cases e : q = i
    · subst e
      rw [sI_s, show least + (m + x4.toInt) = least + x4.toInt + m by omega]
    · rw [sI_k e]; exact J.2 q (by omega)
theorem i_sub_1 (x : Int32) : x + (-1) = x - 1 := by rw [Int32.sub_eq_add_neg]
theorem c_step {h0 : Hp} {Q : Hp → Prop} {a : Row} {w R : Nat} {ly : Nat → Nat} {c : Nat → Int → Nat} {least : Int} {size : Nat} (L0 : Lnd h0 a) (O : LandOK a) (hw : w < 10) (hR : ∀ r, R.testBit r = true → r < nR a ∧ opnA a w r = true) (hR16 : R < 2 ^ 16) (T : TabR h0 c least size) (hs : 1 ≤ size ∧ size ≤ 991) (hl : -600 ≤ least ∧ least ≤ 0) (e94 : ∀ p, p < 8 → gI h0 94 p = nI (ly p)) (k : ∀ h1 l' s', Fp oS h0 h1 → TabR h1 (stepT a w R ly c) l' s' → least - 99 ≤ l' → l' ≤ least → size ≤ s' → s' ≤ size + 198 → Q h1) : Sums_step (nI w) (nI R) h0 Q := by
  have h8 := O.1.2.1
  have h16 := O.2.1.1
  obtain ⟨t3, t4, tt, sup⟩ := T
  unfold Sums_step
  refine c_lo L0 O hw (fun lo lo1 lo2 => c_hi L0 O hw (fun hi hi1 hi2 => ?_))
  rw [t4]
  have zi : (nI size).toInt = size := nI_toInt (by omega)
  have e1 : (nI size + hi).toInt = size + hi.toInt := by rw [i_add (by rw [zi]; omega), zi]
  have e2 : (nI size + hi - lo).toInt = size + hi.toInt - lo.toInt := by rw [i_sub (by rw [e1]; omega), e1]
  obtain ⟨sums, hsu⟩ : ∃ sums : Nat, (sums : Int) = size + hi.toInt - lo.toInt := ⟨((size : Int) + hi.toInt - lo.toInt).toNat, by omega⟩
  have e3 : nI size + hi - lo = nI sums := by rw [i_eq, e2, nI_toInt (by omega), hsu]
  rw [e3]
  have main : ∀ v7 : Int32, v7 = (nI sums - 1) → ∃ n25, Sums_step_L34 (nI w) (nI R) lo (nI sums) Q n25 v7 h0 := by
    rintro _ rfl
    refine pk_loop (σ := Hp) (fun n i h => Sums_step_L34 (nI w) (nI R) lo (nI sums) Q n (nI (sums - i) - 1) h) (fun i h => Fp oS h0 h ∧ gI h 92 3 = gI h0 92 3 ∧ gI h 92 4 = nI size ∧ (∀ p, p < 8 → gI h 94 p = nI (ly p)) ∧ (∀ j p, j < size → j + i < sums → p < 8 → gI h 93 (j * 8 + p) = nI (c p (least + j))) ∧ ∀ j p, j < sums → sums ≤ j + i → p < 8 → gI h 93 (j * 8 + p) = nI (stepT a w R ly c p (least + lo.toInt + j))) sums 0 h0 (by omega) ⟨Fp.rf _ _, rfl, t4, e94, fun j p hj _ hp => tt j p hj hp, fun j p h1 h2 => absurd h1 (by omega)⟩ (fun n h1 J => ?_) (fun n i h hi' J hk => ?_)
    · obtain ⟨F, j3, j4, _, _, jn⟩ := J
      unfold Sums_step_L34
      rw [Nat.sub_self]
      refine brT (by decide) ?_
      rintro _ rfl _ rfl
      have e : (gI h0 92 3 + lo).toInt = least + lo.toInt := by rw [i_add (by rw [t3]; omega), t3]
      refine k _ (least + lo.toInt) sums (Fp.sI (Fp.sI F rfl) rfl) ⟨?_, ?_, fun j p hj hp => ?_, fun p s hp hs' => ?_⟩ (by omega) (by omega) (by omega) (by omega)
      · rw [sI_k (by decide), sI_s, j3]; exact e
      · rw [sI_s]
      · rw [sI_o (by decide), sI_o (by decide)]
        exact jn j p hj (by omega) hp
      · unfold stepT
        have z : smN (fun r => if R.testBit r = true ∧ toA a r = p then c (fromA a r) (s - (payA a w r).toInt) else 0) 16 = 0 := smN_z (fun r _ => by
          by_cases q : R.testBit r = true ∧ toA a r = p
          · obtain ⟨r1, r2⟩ := hR r q.1
            have fl := (O.2.2.1 r r1).1.2
            have := lo2 r r1 r2
            have := hi2 r r1 r2
            rw [if_pos q, sup _ _ (by omega) (by omega)]
          · rw [if_neg q])
        rw [z, sup p s hp (by omega)]; rfl
    · obtain ⟨F, j3, j4, j94, jo, jn⟩ := J
      obtain ⟨m, hm⟩ : ∃ m, sums - i = m + 1 := ⟨sums - i - 1, by omega⟩
      unfold Sums_step_L34
      rw [hm, i_sub1]
      refine brF (nI_pos (by omega)) (c_line (c := c) (least := least) (ly := ly) (size := size) (oS_k L0 F) O hw hR hR16 (by omega) (by omega) j4 lo1 lo2 (fun j p h1 h2 hp => jo j p h1 (by omega) hp) sup j94 (fun h1 f1 e95 => ?_))
      have e8 : nI m * 8 = nI (m * 8) := by rw [show (8 : Int32) = nI 8 from rfl, pk_mul]
      have c0 : (0 : Int32).toNatClampNeg = 0 := by decide
      have c8 : (8 : Int32).toNatClampNeg = 8 := by decide
      rw [e8, cl (m * 8), c0, c8]
      refine ⟨⟨by decide, nI_pos (by omega), by decide, by omega, by omega⟩, ?_⟩
      rintro _ rfl _ rfl
      have hi2' : sums - (i + 1) = m := by omega
      have := hk (cI h1 95 0 93 (m * 8) 8) ⟨?_, ?_, ?_, fun p hp => ?_, fun j p h1' h2 hp => ?_, fun j p h1' h2 hp => ?_⟩
      · rw [hi2'] at this; rw [i_sub_1]; exact this
      · exact Fp.cI (F.tr (f1.mo oS_A)) (fun _ _ _ => rfl)
      · rw [gI_cI, if_neg (fun e => absurd e.1 (by decide)), f1.1 92 3 rfl]; exact j3
      · rw [gI_cI, if_neg (fun e => absurd e.1 (by decide)), f1.1 92 4 rfl]; exact j4
      · rw [gI_cI, if_neg (fun e => absurd e.1 (by decide)), f1.1 94 p rfl]; exact j94 p hp
      · rw [gI_cI, if_neg (fun e => by omega), f1.1 93 _ rfl]
        exact jo j p h1' (by omega) hp
      · rw [gI_cI]
        by_cases e : j = m
        · subst e
          rw [if_pos ⟨rfl, by omega, by omega⟩, show 0 + (j * 8 + p - j * 8) = p by omega]
          exact e95 p hp
        · rw [if_neg (fun e => by omega), f1.1 93 _ rfl]
          exact jn j p h1' (by omega) hp
  unfold J9_min_7cf53
  refine ⟨fun _ => main, fun d => ?_⟩
  have l : (1189 : Int32).toInt = 1189 := by decide
  rw [i_lt, nI_toInt (by omega), l] at d
  have : sums = 1189 := by omega
  subst this
  exact main
