/-! the class weighs plans -/
noncomputable def svX (a : Row) (w who : Nat) (X : Nat → Nat) (p : Nat) : Int := svA a w who (fun q => bl (X q)) p
def btr (who : Nat) (x y : Int) : Prop := (who = 1 ∧ y < x) ∨ (¬ who = 1 ∧ x < y)
theorem btr_d (who : Nat) (x y : Int) : btr who x y ∨ ¬ btr who x y := Classical.em _
def FLg (a : Row) (w : Nat) (h : Hp) : Prop := ∀ p, p < nP a → gI h 81 p = nI (cwy a w p)
def oR (o4 : Nat) : Nat → Nat → Bool := fun o _ => o == 82 || o == o4
/-- raising: at p -/
def upP (h0 : Hp) (o4 who : Nat) (s : Nat → Int) (p : Nat) : Prop := gI h0 o4 p = 0 ∨ btr who (s p) (gI h0 82 p).toInt
theorem c_raiseV {a : Row} {h0 : Hp} {Q : Int32 → Hp → Prop} {o4 who : Nat} {s : Nat → Int} (O : LandOK a) (L : Lnd h0 a) (hwho : who < 2) (ho : o4 = 84 ∨ o4 = 85) (hs : ∀ p, p < nP a → (gI h0 (if who = 1 then 78 else 79) p).toInt = s p) (k : ∀ h1 r, Fq (oR o4) h0 h1 → (∀ p, p < nP a → (upP h0 o4 who s p → (gI h1 82 p).toInt = s p ∧ gI h1 o4 p = 1) ∧ (¬ upP h0 o4 who s p → gI h1 82 p = gI h0 82 p ∧ (s p = (gI h0 82 p).toInt → gI h1 o4 p = gI h0 o4 p + 1) ∧ (¬ s p = (gI h0 82 p).toInt → gI h1 o4 p = gI h0 o4 p))) → ((r = 1 ∧ ∃ p, p < nP a ∧ upP h0 o4 who s p) ∨ (r = 0 ∧ ∀ p, p < nP a → ¬ upP h0 o4 who s p)) → Q r h1) : Game_raiseValues (nI who) o4 h0 Q := by
  have h8 := O.1.2.1
  have al : alen o4 = 8 := by rcases ho with rfl | rfl <;> rfl
  have t4 : ∀ k, oR o4 o4 k = true := fun k => by simp [oR]
  have t82 : ∀ k, oR o4 82 k = true := fun k => rfl
  have n82 : (82 : Nat) ≠ o4 := by omega
  have keepL : ∀ {h : Hp}, Fq (oR o4) h0 h → Lnd h a := fun F => Lnd_k L (fun o j h1 h2 => F.1.1 o j (by
    simp only [oR, Bool.or_eq_false_iff, beq_eq_false_iff_ne]; omega))
  unfold Game_raiseValues
  refine pk_loop (σ := Int32 × Hp) (fun n i t => Game_raiseValues_L6 o4 (nI who) Q n t.1 (nI i) t.2) (fun i t => Fq (oR o4) h0 t.2 ∧ (∀ p, i ≤ p → gI t.2 82 p = gI h0 82 p ∧ gI t.2 o4 p = gI h0 o4 p) ∧ (∀ p, p < i → (upP h0 o4 who s p → (gI t.2 82 p).toInt = s p ∧ gI t.2 o4 p = 1) ∧ (¬ upP h0 o4 who s p → gI t.2 82 p = gI h0 82 p ∧ (s p = (gI h0 82 p).toInt → gI t.2 o4 p = gI h0 o4 p + 1) ∧ (¬ s p = (gI h0 82 p).toInt → gI t.2 o4 p = gI h0 o4 p))) ∧ ((t.1 = 1 ∧ ∃ p, p < i ∧ upP h0 o4 who s p) ∨ (t.1 = 0 ∧ ∀ p, p < i → ¬ upP h0 o4 who s p))) (nP a) 0 (0, h0) (by omega) ⟨Fq.rf _ _, fun p _ => ⟨rfl, rfl⟩, fun p hp => absurd hp (by omega), Or.inr ⟨rfl, fun p hp => absurd hp (by omega)⟩⟩ (fun n t J => ?_) (fun n i t hi J hk => ?_)
  · obtain ⟨r, h1⟩ := t
    obtain ⟨F, j1, j2, j3⟩ := J
    have L1 := keepL F
    show Game_raiseValues_L6 o4 (nI who) Q (n + 1) r (nI (nP a)) h1
    unfold Game_raiseValues_L6
    rw [L1.1, O.1.2.2]
    refine pk_le (nP a) (nP a) (fun _ => ⟨?_, k h1 r F j2 j3⟩) (fun c => absurd c (by omega))
    rcases j3 with ⟨e, _⟩ | ⟨e, _⟩
    · exact Or.inr e
    · exact Or.inl e
  · obtain ⟨r, h⟩ := t
    obtain ⟨F, j1, j2, j3⟩ := J
    have L1 := keepL F
    have F : Fq (oR o4) h0 h := F
    obtain ⟨b1, b2⟩ := j1 i (Nat.le_refl i)
    have b1 : gI h 82 i = gI h0 82 i := b1
    have b2 : gI h o4 i = gI h0 o4 i := b2
    have es : gI h (if who = 1 then 78 else 79) i = gI h0 (if who = 1 then 78 else 79) i := F.1.1 _ i (by
      by_cases c : who = 1
      · rw [if_pos c]; simp only [oR, Bool.or_eq_false_iff, beq_eq_false_iff_ne]; omega
      · rw [if_neg c]; simp only [oR, Bool.or_eq_false_iff, beq_eq_false_iff_ne]; omega)
    obtain ⟨sx, hsx⟩ : ∃ sx, gI h0 (if who = 1 then 78 else 79) i = sx := ⟨_, rfl⟩
    have si : sx.toInt = s i := by rw [← hsx]; exact hs i hi
    show Game_raiseValues_L6 o4 (nI who) Q (n + 1) r (nI i) h
    unfold Game_raiseValues_L6
    rw [L1.1, O.1.2.2, al]
    refine pk_le (nP a) i (fun c => absurd c (by omega)) (fun _ => pk_le 8 i (fun c => absurd c (by omega)) (fun _ => pk_le 8 i (fun c => absurd c (by omega)) (fun _ => c_securedBy hwho (by omega) ⟨pk_in i 8 (by omega), ?_⟩)))
    rw [cl i, es, hsx]
    rintro J100 rfl J82 rfl
    rw [b2, b1]
    -- raised
    have raised : upP h0 o4 who s i → (vp_in (nI i) 8 ∧ ∀ h9 : Hp, h9 = sI h 82 i sx → vp_in (nI i) 8 ∧ ∀ h10 : Hp, h10 = sI h9 o4 i 0 → vp_in (nI i) 8 ∧ ∀ J121 : Hp → Prop, J121 = (fun h5 => ∀ v6 : Int32, v6 = (nI i + 1) → Game_raiseValues_L6 o4 (nI who) Q n 1 v6 h5) → (¬ sx = (gI h10 82 i) → J121 h10) ∧ (sx = (gI h10 82 i) → vp_in (nI i) 8 ∧ vp_in (nI i) 8 ∧ ∀ h7 : Hp, h7 = sI h10 o4 i ((gI h10 o4 i) + 1) → J121 h7)) := by
      intro u
      refine ⟨pk_in i 8 (by omega), ?_⟩
      rintro _ rfl
      refine ⟨pk_in i 8 (by omega), ?_⟩
      rintro _ rfl
      refine ⟨pk_in i 8 (by omega), ?_⟩
      rintro J121 rfl
      rw [sI_o n82, sI_s]
      refine brT' rfl ⟨pk_in i 8 (by omega), pk_in i 8 (by omega), ?_⟩
      rw [sI_s]
      rintro _ rfl _ rfl
      rw [nI_1 i]
      refine hk (1, _) ⟨Fq.sI (Fq.sI (Fq.sI F (t82 i)) (t4 i)) (t4 i), fun p hp => ?_, fun p hp => ?_, Or.inl ⟨rfl, i, by omega, u⟩⟩
      · show gI (sI (sI (sI h 82 i sx) o4 i 0) o4 i (0 + 1)) 82 p = _ ∧ gI (sI (sI (sI h 82 i sx) o4 i 0) o4 i (0 + 1)) o4 p = _
        rw [sI_k (show p ≠ i by omega), sI_k (show p ≠ i by omega), sI_k (show p ≠ i by omega), sI_k (show p ≠ i by omega), sI_k (show p ≠ i by omega), sI_k (show p ≠ i by omega)]
        exact j1 p (by omega)
      · show (_ → (gI (sI (sI (sI h 82 i sx) o4 i 0) o4 i (0 + 1)) 82 p).toInt = _ ∧ gI (sI (sI (sI h 82 i sx) o4 i 0) o4 i (0 + 1)) o4 p = _) ∧ (_ → gI (sI (sI (sI h 82 i sx) o4 i 0) o4 i (0 + 1)) 82 p = _ ∧ (_ → gI (sI (sI (sI h 82 i sx) o4 i 0) o4 i (0 + 1)) o4 p = _) ∧ (_ → gI (sI (sI (sI h 82 i sx) o4 i 0) o4 i (0 + 1)) o4 p = _))
        by_cases c : p = i
        · subst c
          rw [sI_o n82, sI_o n82, sI_s, sI_s]
          exact ⟨fun _ => ⟨si, rfl⟩, fun z => absurd u z⟩
        · rw [sI_k c, sI_k c, sI_k c, sI_k c, sI_k c, sI_k c]
          exact j2 p (by omega)
    have same : ¬ upP h0 o4 who s i → (vp_in (nI i) 8 ∧ ∀ J121 : Hp → Prop, J121 = (fun h5 => ∀ v6 : Int32, v6 = (nI i + 1) → Game_raiseValues_L6 o4 (nI who) Q n r v6 h5) → (¬ sx = (gI h 82 i) → J121 h) ∧ (sx = (gI h 82 i) → vp_in (nI i) 8 ∧ vp_in (nI i) 8 ∧ ∀ h7 : Hp, h7 = sI h o4 i ((gI h o4 i) + 1) → J121 h7)) := by
      intro u
      refine ⟨pk_in i 8 (by omega), ?_⟩
      rintro J121 rfl
      have r' : (r = 1 ∧ ∃ p, p < i + 1 ∧ upP h0 o4 who s p) ∨ (r = 0 ∧ ∀ p, p < i + 1 → ¬ upP h0 o4 who s p) := j3.imp (fun ⟨e, p, hp, hu⟩ => ⟨e, p, by omega, hu⟩) (fun ⟨e, hn⟩ => ⟨e, fun p hp => by
        by_cases c : p = i
        · subst c; exact u
        · exact hn p (by omega)⟩)
      rw [b1, b2]
      have ee : sx = gI h0 82 i ↔ s i = (gI h0 82 i).toInt := by rw [i_eq, si]
      rw [ee]
      refine ⟨fun c => ?_, fun c => ⟨pk_in i 8 (by omega), pk_in i 8 (by omega), ?_⟩⟩
      · rintro _ rfl
        rw [nI_1 i]
        refine hk (r, h) ⟨F, fun p hp => j1 p (by omega), fun p hp => ?_, r'⟩
        by_cases d : p = i
        · subst d
          exact ⟨fun z => absurd z u, fun _ => ⟨b1, fun z => absurd z c, fun _ => b2⟩⟩
        · exact j2 p (by omega)
      · rintro _ rfl _ rfl
        rw [nI_1 i]
        refine hk (r, _) ⟨Fq.sI F (t4 i), fun p hp => ?_, fun p hp => ?_, r'⟩
        · show gI (sI h o4 i _) 82 p = _ ∧ gI (sI h o4 i _) o4 p = _
          rw [sI_k (show p ≠ i by omega), sI_k (show p ≠ i by omega)]
          exact j1 p (by omega)
        · show (_ → (gI (sI h o4 i _) 82 p).toInt = _ ∧ gI (sI h o4 i _) o4 p = _) ∧ (_ → gI (sI h o4 i _) 82 p = _ ∧ (_ → gI (sI h o4 i _) o4 p = _) ∧ (_ → gI (sI h o4 i _) o4 p = _))
          by_cases d : p = i
          · subst d
            rw [sI_o n82, sI_s]
            exact ⟨fun z => absurd z u, fun _ => ⟨b1, fun _ => rfl, fun z => absurd c z⟩⟩
          · rw [sI_k d, sI_k d]
            exact j2 p (by omega)
    refine ⟨fun c => raised (Or.inl c), fun c => ?_⟩
    have w01 : who = 0 ∨ who = 1 := by omega
    rcases w01 with rfl | rfl
    · refine brF' (by decide) ⟨pk_in i 8 (by omega), ?_⟩
      rw [i_le, si]
      refine ⟨fun d => same (fun u => ?_), fun d => raised (Or.inr (Or.inr ⟨by decide, by omega⟩))⟩
      rcases u with u | u | u
      · exact c u
      · exact absurd u.1 (by decide)
      · omega
    · refine brT' rfl ⟨pk_in i 8 (by omega), ?_⟩
      rw [i_le, si]
      refine ⟨fun d => same (fun u => ?_), fun d => raised (Or.inr (Or.inl ⟨rfl, by omega⟩))⟩
      rcases u with u | u | u
      · exact c u
      · omega
      · exact u.1 rfl
theorem c_isBest {a : Row} {h : Hp} {Q : Int32 → Hp → Prop} {who : Nat} {s : Nat → Int} (O : LandOK a) (L : Lnd h a) (hwho : who < 2) (hs : ∀ p, p < nP a → (gI h (if who = 1 then 78 else 79) p).toInt = s p) (k1 : (∀ p, p < nP a → s p = (gI h 82 p).toInt) → Q 1 h) (k0 : ¬ (∀ p, p < nP a → s p = (gI h 82 p).toInt) → Q 0 h) : Game_isBestSoFar (nI who) h Q := by
  have h8 := O.1.2.1
  unfold Game_isBestSoFar
  refine pk_loop (σ := Unit) (fun n i _ => Game_isBestSoFar_L3 (nI who) Q n (nI i) h) (fun i _ => ∀ p, p < i → s p = (gI h 82 p).toInt) (nP a) 0 () (by omega) (fun p hp => absurd hp (by omega)) (fun n _ J => ?_) (fun n i _ hi J hk => ?_)
  · unfold Game_isBestSoFar_L3
    rw [L.1, O.1.2.2]
    exact pk_le (nP a) (nP a) (fun _ => k1 J) (fun c => absurd c (by omega))
  · unfold Game_isBestSoFar_L3
    rw [L.1, O.1.2.2]
    refine pk_le (nP a) i (fun c => absurd c (by omega)) (fun _ => pk_le 8 i (fun c => absurd c (by omega)) (fun _ => c_securedBy hwho (by omega) ⟨pk_in i 8 (by omega), ?_⟩))
    rw [cl i, i_eq, hs i hi]
    refine ⟨fun c => ?_, fun c => k0 (fun z => c (z i hi))⟩
    rintro _ rfl
    rw [nI_1 i]
    refine hk () (fun p hp => ?_)
    by_cases d : p = i
    · subst d; exact c
    · exact J p (by omega)
theorem c_keepPlan {a : Row} {w : Nat} {h0 : Hp} {Q : Hp → Prop} {who : Nat} {Y : Nat → Nat} (O : LandOK a) (V0 : SV a w Y h0) (hwho : who < 2) (hY : ∀ p, p < nP a → ownB (mnA a) who p = true → ∃ e, wayOK a w p e ∧ Y p = 2 ^ e) (k : ∀ h1, Fq (fun o k => o == 83 && ownB (mnA a) who k) h0 h1 → (∀ p, p < nP a → ownB (mnA a) who p = true → gI h1 83 p = nI (tw (low (Y p)))) → Q h1) : Game_keepPlan (nI who) h0 Q := by
  have h8 := O.1.2.1
  unfold Game_keepPlan
  refine pk_loop (σ := Hp) (fun n i h => Game_keepPlan_L3 (nI who) Q n (nI i) h) (fun i h => Fq (fun o k => o == 83 && ownB (mnA a) who k) h0 h ∧ ∀ p, p < i → ownB (mnA a) who p = true → gI h 83 p = nI (tw (low (Y p)))) (nP a) 0 h0 (by omega) ⟨Fq.rf _ _, fun p hp => absurd hp (by omega)⟩ (fun n h1 J => ?_) (fun n i h hi J hk => ?_)
  · have V1 := SV_k V0 J.1 (fun o k hh => by simp only [Bool.and_eq_false_iff, beq_eq_false_iff_ne]; omega)
    unfold Game_keepPlan_L3
    rw [V1.1.1, O.1.2.2]
    exact pk_le (nP a) (nP a) (fun _ => k h1 J.1 J.2) (fun c => absurd c (by omega))
  · have V1 := SV_k V0 J.1 (fun o k hh => by simp only [Bool.and_eq_false_iff, beq_eq_false_iff_ne]; omega)
    unfold Game_keepPlan_L3
    rw [V1.1.1, O.1.2.2]
    refine pk_le (nP a) i (fun c => absurd c (by omega)) (fun _ => pk_le 8 i (fun c => absurd c (by omega)) (fun _ => pk_le 8 i (fun c => absurd c (by omega)) (fun _ => c_own V1.1 O (by omega) ?_)))
    rintro J53 rfl
    rw [own_i hwho]
    refine ⟨fun c => ?_, fun c => ⟨pk_in i 8 (by omega), ?_⟩⟩
    · rintro _ rfl
      rw [nI_1 i]
      refine hk h ⟨J.1, fun p hp ho => ?_⟩
      have : p ≠ i := fun e => c (e ▸ ho)
      exact J.2 p (by omega) ho
    · obtain ⟨e, we, ey⟩ := hY i hi c
      have e24 := way24 O (by omega) we
      have t17 : tw e < 17 := by unfold tw; split <;> omega
      rw [cl i, V1.2.2.2 i hi, CX_own we ey]
      refine j_ntz (m := 17) (Nat.ne_of_gt (Nat.two_pow_pos _)) (Nat.pow_lt_pow_right (by decide) t17) ⟨pk_in i 8 (by omega), ?_⟩
      rw [low_pow (by omega)]
      rintro _ rfl _ rfl
      rw [nI_1 i]
      refine hk _ ⟨Fq.sI J.1 (by simp [c]), fun p hp ho => ?_⟩
      by_cases d : p = i
      · subst d; rw [sI_s, ey, low_pow (by omega)]
      · rw [sI_k d]; exact J.2 p (by omega) ho
/-! the next plan -/
theorem neg_shl : ∀ e, e < 17 → -(nI (2 ^ e) <<< ((1 : Int32) &&& 31)) = nI (2 ^ (e + 1) - 1) ^^^ (-1) := by decide +kernel
theorem later_v {n e : Nat} (hn : n < 2 ^ 17) (he : e < 17) : nI n &&& (-(nI (2 ^ e) <<< ((1 : Int32) &&& 31))) = nI (abv n e) := by
  rw [neg_shl e he]
  refine z_andn (fun i => ?_)
  rw [Nat.testBit_two_pow_sub_one, Bool.eq_iff_iff, abv_tb, Bool.and_eq_true, Bool.not_eq_true', decide_eq_false_iff_not]
  constructor
  · rintro ⟨h1, h2, h3⟩; exact ⟨h2, by omega⟩
  · rintro ⟨h2, h3⟩
    refine ⟨?_, h2, by omega⟩
    rcases Nat.lt_or_ge i 24 with c | c
    · exact c
    · rw [Nat.testBit_lt_two_pow (Nat.lt_of_lt_of_le hn (Nat.pow_le_pow_right (by decide) (by omega)))] at h2; cases h2
theorem abv_lt (n e : Nat) : abv n e < 2 ^ 24 := bset_lt _ _
theorem later_c {a : Row} (O : LandOK a) {w p e : Nat} (hp : p < 8) (we : wayOK a w p e) : nI (cwy a w p) &&& (-(nI (2 ^ tw e) <<< ((1 : Int32) &&& 31))) = nI (abv (wys a w p) e) := by
  have t17 : tw e < 17 := by unfold tw; split <;> omega
  rw [later_v (cwy_lt O w p) t17]
  congr 1
  rcases we with ⟨h1, h2, h3, h4⟩ | ⟨z, rfl⟩
  · have nz : ¬ obs a w p = 0 := fun z => by
      have b := (obs_tb (a := a) (w := w) (p := p) (i := e)).mpr ⟨h2, h3, h4⟩
      rw [z, Nat.zero_testBit] at b; cases b
    unfold cwy wys tw
    rw [if_neg nz, if_neg nz, if_pos h1]
  · have e1 : cwy a w p = 65536 := if_pos z
    have e2 : wys a w p = 2 ^ (16 + p) := if_pos z
    have e3 : tw (16 + p) = 16 := if_neg (by omega)
    rw [e1, e2, e3]
    have z1 : abv 65536 16 = 0 := by decide
    rw [z1]
    symm
    apply Nat.eq_of_testBit_eq
    intro x
    rw [Nat.zero_testBit, Bool.eq_false_iff]
    intro c
    obtain ⟨c1, c2, c3⟩ := abv_tb.mp c
    have := tb_pow c2
    omega
theorem nxt_lt (own : Nat → Bool) (A : Nat → Nat) : ∀ {k p q : Nat} {Y : Nat → Nat}, q < p → (nxt own A k p Y).1 q = Y q
  | 0, p, q, Y, _ => rfl
  | k + 1, p, q, Y, h => by
    have ih := nxt_lt own A (k := k) (p := p + 1) (q := q) (Y := Y) (by omega)
    show (if (nxt own A k (p + 1) Y).2 = true then nxt own A k (p + 1) Y else if own p = true then (if abv (A p) (low (Y p)) = 0 then (upX (nxt own A k (p + 1) Y).1 p (2 ^ low (A p)), false) else (upX (nxt own A k (p + 1) Y).1 p (2 ^ low (abv (A p) (low (Y p)))), true)) else nxt own A k (p + 1) Y).1 q = Y q
    split
    · exact ih
    · split
      · split
        · show upX _ p _ q = _
          rw [upX_n (by omega)]; exact ih
        · show upX _ p _ q = _
          rw [upX_n (by omega)]; exact ih
      · exact ih
theorem nxt_stop (own : Nat → Bool) (A : Nat → Nat) {Y : Nat → Nat} {N : Nat} : ∀ {k p m : Nat}, p + k = N → m ≤ p → (nxt own A k p Y).2 = true → nxt own A (N - m) m Y = nxt own A k p Y := by
  intro k p m hN hm ht
  obtain ⟨d, rfl⟩ : ∃ d, p = m + d := ⟨p - m, by omega⟩
  rw [show N - m = d + k by omega]
  clear hN hm
  induction d generalizing m with
  | zero => rw [Nat.zero_add]; exact rfl
  | succ d ih =>
    have e : m + (d + 1) = (m + 1) + d := by omega
    rw [e] at ht ⊢
    have := ih ht
    rw [show d + 1 + k = (d + k) + 1 by omega]
    show (if (nxt own A (d + k) (m + 1) Y).2 = true then nxt own A (d + k) (m + 1) Y else _) = _
    rw [this, if_pos ht]
theorem c_nextPlan {a : Row} {w : Nat} {h0 : Hp} {Q : Int32 → Hp → Prop} {who : Nat} {Y : Nat → Nat} (O : LandOK a) (V0 : SV a w Y h0) (FL : FLg a w h0) (hwho : who < 2) (hY : ∀ p, p < nP a → ownB (mnA a) who p = true → ∃ e, wayOK a w p e ∧ Y p = 2 ^ e) (k : ∀ h1, Fq (fun o _ => o == 74) h0 h1 → SV a w (nxt (ownB (mnA a) who) (wys a w) (nP a) 0 Y).1 h1 → Q (if (nxt (ownB (mnA a) who) (wys a w) (nP a) 0 Y).2 = true then 1 else 0) h1) : Game_nextPlan (nI who) h0 Q := by
  have h8 := O.1.2.1
  obtain ⟨own, hown⟩ : ∃ own, ownB (mnA a) who = own := ⟨_, rfl⟩
  rw [hown] at hY k
  have svs : ∀ {h : Hp} {Z : Nat → Nat} {i : Nat} {v : Nat}, Fq (fun o _ => o == 74) h0 h → SV a w Z h → i < nP a → (∃ e, wayOK a w i e ∧ v = 2 ^ e) → SV a w (upX Z i v) (sI h 74 i (nI (CX a w (upX Z i v) i))) := by
    intro h Z i v F V hi _
    refine ⟨Lnd_k V.1 (fun o j h1 h2 => by rw [sI_o (by omega)]), V.2.1, by rw [sI_o (by decide)]; exact V.2.2.1, fun p hp => ?_⟩
    by_cases c : p = i
    · subst c; rw [sI_s]
    · rw [sI_k c, V.2.2.2 p hp]
      unfold CX
      rw [upX_n c]
  unfold Game_nextPlan
  rw [V0.1.1, O.1.2.2]
  unfold J9_min_7cf53
  refine pk_lt 8 (nP a) (fun c => absurd c (by omega)) (fun _ => ?_)
  rintro _ rfl
  refine pk_loop (σ := Hp) (fun n j h => Game_nextPlan_L16 (nI who) Q n (nI (nP a - j) - 1) h) (fun j h => Fq (fun o _ => o == 74) h0 h ∧ (nxt own (wys a w) j (nP a - j) Y).2 = false ∧ SV a w (nxt own (wys a w) j (nP a - j) Y).1 h) (nP a) 0 h0 (by omega) ⟨Fq.rf _ _, rfl, V0⟩ (fun n h1 J => ?_) (fun n j h hj J hk => ?_)
  · obtain ⟨F, j1, j2⟩ := J
    rw [Nat.sub_self] at j1 j2
    unfold Game_nextPlan_L16
    rw [Nat.sub_self]
    refine brT (by decide) ?_
    have := k h1 F j2
    rw [j1, if_neg (by decide)] at this
    exact this
  · obtain ⟨F, j1, j2⟩ := J
    obtain ⟨i, hi⟩ : ∃ i, nP a - j = i + 1 := ⟨nP a - j - 1, by omega⟩
    have hij : nP a - (j + 1) = i := by omega
    rw [hi] at j1 j2
    rw [hij] at hk
    unfold Game_nextPlan_L16
    rw [hi, i_sub1]
    refine brF (nI_pos (by omega)) (c_own j2.1 O (by omega) ?_)
    rintro J85 rfl
    have oi := own_i (a := a) (p := i) hwho
    rw [hown] at oi
    rw [oi]
    have back : nI i + (-1) = nI i - 1 := i_sub_1 _
    refine ⟨fun c => ?_, fun c => pk_le 8 i (fun c => absurd c (by omega)) (fun _ => ⟨pk_in i 8 (by omega), pk_in i 8 (by omega), ?_⟩)⟩
    · rintro _ rfl
      rw [back]
      have e : nxt own (wys a w) (j + 1) i Y = nxt own (wys a w) j (i + 1) Y := by
        show (if (nxt own (wys a w) j (i + 1) Y).2 = true then nxt own (wys a w) j (i + 1) Y else if own i = true then _ else nxt own (wys a w) j (i + 1) Y) = _
        rw [j1, if_neg (by decide), if_neg c]
      exact hk h ⟨F, by rw [e]; exact j1, by rw [e]; exact j2⟩
    · obtain ⟨e, we, ey⟩ := hY i (by omega) c
      have e24 := way24 O (by omega) we
      have yi : (nxt own (wys a w) j (i + 1) Y).1 i = 2 ^ e := by rw [nxt_lt own (wys a w) (by omega)]; exact ey
      have f81 : gI h 81 i = nI (cwy a w i) := (F.1.1 81 i rfl).trans (FL i (by omega))
      have f74 : gI h 74 i = nI (2 ^ tw e) := by rw [j2.2.2.2 i (by omega), CX_own we yi]
      rw [cl i, f81, f74, later_c O (by omega) we]
      rintro _ rfl
      have al := abv_lt (wys a w i) e
      have az : nI (abv (wys a w i) e) = 0 ↔ abv (wys a w i) e = 0 := by
        rw [show (0 : Int32) = nI 0 from rfl, nI_eq (by omega) (by decide)]
      rw [az]
      have un : ∀ v, nxt own (wys a w) (j + 1) i Y = v ↔ (if abv (wys a w i) e = 0 then (upX (nxt own (wys a w) j (i + 1) Y).1 i (2 ^ low (wys a w i)), false) else (upX (nxt own (wys a w) j (i + 1) Y).1 i (2 ^ low (abv (wys a w i) e)), true)) = v := fun v => by
        show (if (nxt own (wys a w) j (i + 1) Y).2 = true then nxt own (wys a w) j (i + 1) Y else if own i = true then (if abv (wys a w i) (low (Y i)) = 0 then (upX (nxt own (wys a w) j (i + 1) Y).1 i (2 ^ low (wys a w i)), false) else (upX (nxt own (wys a w) j (i + 1) Y).1 i (2 ^ low (abv (wys a w i) (low (Y i)))), true)) else nxt own (wys a w) j (i + 1) Y) = v ↔ _
        rw [j1, if_neg (by decide), if_pos c, ey, low_pow (by omega)]
      refine ⟨fun z => ⟨pk_in i 8 (by omega), ?_⟩, fun z => ?_⟩
      · have wl := wys_lt O (w := w) (p := i) (by omega)
        have lk := low_ok O (w := w) (p := i) (by omega)
        have ev : nxt own (wys a w) (j + 1) i Y = (upX (nxt own (wys a w) j (i + 1) Y).1 i (2 ^ low (wys a w i)), false) := (un _).mpr (if_pos z)
        have lc := low_cwy O (w := w) (p := i) (by omega)
        have cz : cwy a w i ≠ 0 := by unfold cwy; split <;> first | decide | assumption
        obtain ⟨q1, q2, q3⟩ := low_nz cz (cwy_lt O w i) (by decide)
        rw [lc] at q1 q2 q3
        refine j_lob (by have := cwy_lt O w i; omega) q2 q3 ⟨pk_in i 8 (by omega), ?_⟩
        rintro _ rfl _ rfl
        rw [back]
        have := svs F j2 (i := i) (by omega) (v := 2 ^ low (wys a w i)) ⟨_, lk, rfl⟩
        rw [CX_own lk (upX_s _ _ _)] at this
        exact hk _ ⟨Fq.sI F rfl, by rw [ev], by rw [ev]; exact this⟩
      · obtain ⟨q1, q2, q3⟩ := low_nz z al (by decide)
        obtain ⟨t1, t2, t3⟩ := abv_tb.mp q2
        have lk : wayOK a w i (low (abv (wys a w i) e)) := (wys_tb O).mp t2
        have ev : nxt own (wys a w) (j + 1) i Y = (upX (nxt own (wys a w) j (i + 1) Y).1 i (2 ^ low (abv (wys a w i) e)), true) := (un _).mpr (if_neg z)
        have nz : ¬ obs a w i = 0 := fun zz => by
          have e2 : wys a w i = 2 ^ (16 + i) := if_pos zz
          have h1 : low (abv (wys a w i) e) = 16 + i := tb_pow (p := 16 + i) (by rw [← e2]; exact t2)
          rcases we with ⟨_, h2, h3, h4⟩ | ⟨_, h5⟩
          · have b := (obs_tb (a := a) (w := w) (p := i) (i := e)).mpr ⟨h2, h3, h4⟩
            rw [zz, Nat.zero_testBit] at b; cases b
          · omega
        have tq : tw (low (abv (wys a w i) e)) = low (abv (wys a w i) e) := by
          unfold tw
          rcases lk with ⟨h1, _⟩ | ⟨h1, _⟩
          · rw [if_pos h1]
          · exact absurd h1 nz
        refine j_lob (by omega) q2 q3 ⟨pk_in i 8 (by omega), ?_⟩
        rintro _ rfl
        have := svs F j2 (i := i) (by omega) (v := 2 ^ low (abv (wys a w i) e)) ⟨_, lk, rfl⟩
        rw [CX_own lk (upX_s _ _ _), tq] at this
        have st := nxt_stop own (wys a w) (Y := Y) (N := nP a) (k := j + 1) (p := i) (m := 0) (by omega) (by omega) (by rw [ev])
        rw [Nat.sub_zero] at st
        have kk := k (sI h 74 i (nI (2 ^ low (abv (wys a w i) e)))) (Fq.sI F rfl) (by rw [st, ev]; exact this)
        rw [st, ev, if_pos rfl] at kk
        exact kk
