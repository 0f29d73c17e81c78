/-! energy -/
def cnW (p j : Nat) : Nat := if j < 16 then j else 16 + p
theorem cwy_tb {a : Row} (O : LandOK a) {w p j : Nat} (hj : j < 17) : (cwy a w p).testBit j = true ↔ wayOK a w p (cnW p j) := by
  have h16 := O.2.1.1
  unfold cwy cnW wayOK
  by_cases q : obs a w p = 0
  · rw [if_pos q]
    by_cases c : j < 16
    · rw [if_pos c]
      have : (65536 : Nat).testBit j = false := by
        rw [show (65536 : Nat) = 2 ^ 16 from rfl, Nat.testBit_two_pow, decide_eq_false_iff_not]; omega
      rw [this]
      constructor
      · intro e; cases e
      · rintro (⟨h1, h2, h3, h4⟩ | ⟨_, h5⟩)
        · have := (obs_tb (a := a) (w := w) (p := p) (i := j)).mpr ⟨h2, h3, h4⟩
          rw [q, Nat.zero_testBit] at this; cases this
        · omega
    · rw [if_neg c]
      have : j = 16 := by omega
      subst this
      exact ⟨fun _ => Or.inr ⟨q, rfl⟩, fun _ => by decide⟩
  · rw [if_neg q]
    have ol := obs_lt O w p
    by_cases c : j < 16
    · rw [if_pos c, obs_tb]
      exact ⟨fun e => Or.inl ⟨c, e⟩, fun e => e.elim (fun h => h.2) (fun h => absurd h.1 q)⟩
    · rw [if_neg c]
      have : j = 16 := by omega
      subst this
      rw [Nat.testBit_lt_two_pow ol]
      constructor
      · intro e; cases e
      · rintro (⟨h1, _⟩ | ⟨h1, _⟩)
        · omega
        · exact absurd h1 q
theorem cn_tw {a : Row} (O : LandOK a) {w p e : Nat} (hp : p < 8) (h : wayOK a w p e) : cnW p (tw e) = e ∧ tw e < 17 := by
  unfold cnW tw
  rcases h with ⟨h1, _⟩ | ⟨_, rfl⟩
  · rw [if_pos h1, if_pos h1]; exact ⟨rfl, by omega⟩
  · have e : (if 16 + p < 16 then 16 + p else 16) = 16 := if_neg (by omega)
    rw [e, if_neg (by omega)]; exact ⟨rfl, by omega⟩
theorem tw_cn {p j : Nat} (hj : j < 17) : tw (cnW p j) = j := by
  unfold cnW tw
  by_cases c : j < 16
  · rw [if_pos c, if_pos c]
  · rw [if_neg c, if_neg (by omega)]; omega
theorem ways_ne {a : Row} (O : LandOK a) {w p : Nat} (hp : p < 8) : ∃ e, e < 24 ∧ wayOK a w p e := ⟨_, way24 O hp (low_ok O hp), low_ok O hp⟩
abbrev NeedW (a : Row) (w : Nat) : Nat → Nat → Prop := fun p e => wayOK a w p e
theorem c_along {h : Hp} {Q : Int32 → Hp → Prop} {f : Nat → Nat} {q : Nat} {y : Int32} (hq : q < 8) (e86 : gI h 86 q = nI (f q)) (hf : f q ≤ 792) (hy : -99 ≤ y.toInt ∧ y.toInt ≤ 99) (k : Q (nI (alN 792 (f q) y.toInt)) h) : Game_needAlong (nI q) y h Q := by
  unfold Game_needAlong
  refine brF (nI_pos (by omega)) (pk_le 8 q (fun c => absurd c (by omega)) (fun _ => ⟨pk_in q 8 hq, ?_⟩))
  rw [cl q, e86]
  unfold alN at k
  refine pk_lt (f q) 792 (fun c => ⟨pk_in q 8 hq, ?_⟩) (fun c => ?_)
  · rw [if_neg (by omega)] at k
    have e1 : (nI (f q) - y).toInt = (f q : Int) - y.toInt := by rw [i_sub (by rw [nI_toInt (by omega)]; omega), nI_toInt (by omega)]
    have l792 : (792 : Int32).toInt = 792 := by decide
    have l0 : (0 : Int32).toInt = 0 := by decide
    unfold J9_min_7cf53
    refine ⟨fun d => ?_, fun d => ?_⟩
    · rw [i_lt, e1, l792] at d
      unfold J9_max_7cf53
      by_cases z : 0 < (f q : Int) - y.toInt
      · refine brT (by rw [i_lt, e1, l0]; exact z) ?_
        have : nI (f q) - y = nI (min 792 ((f q : Int) - y.toInt).toNat) := by
          rw [nI_i (nI (f q) - y) (by omega), e1]
          congr 1; omega
        rw [this]; exact k
      · refine brF (by rw [i_lt, e1, l0]; exact z) ?_
        rw [show min 792 ((f q : Int) - y.toInt).toNat = 0 by omega] at k
        exact k
    · rw [i_lt, e1, l792] at d
      unfold J9_max_7cf53
      refine brT (by decide) ?_
      rw [show min 792 ((f q : Int) - y.toInt).toNat = 792 by omega] at k
      exact k
  · rw [if_pos (by omega)] at k; exact k
theorem c_needFrom {h : Hp} {Q : Int32 → Hp → Prop} {a : Row} {f : Nat → Nat} {w p : Nat} (L : Lnd h a) (O : LandOK a) (hw : w < 10) (hp : p < nP a) (e86 : ∀ q, q < 8 → gI h 86 q = nI (f q)) (hf : ∀ q, q < nP a → f q ≤ 792) (k : ∀ v, IsN (NeedW a w) (ttA a) (pIA a w) (mnA a) 792 f p v → Q (nI v) h) : Game_needFrom (nI w) (nI p) h Q := by
  have h8 := O.1.2.1
  obtain ⟨al, hal⟩ : ∃ al : Nat → Nat, ∀ e, alN 792 (f (ttA a e)) (pIA a w e) = al e := ⟨_, fun _ => rfl⟩
  have al792 : ∀ e, al e ≤ 792 := fun e => by rw [← hal]; exact alN_le _ _ _
  have step : ∀ {R : Int32 → Hp → Prop} {j : Nat}, j < 17 → (cwy a w p).testBit j = true → R (nI (al (cnW p j))) h → Land_target (nI p) (nI j) h (fun r12 h13 => Land_payOf (nI w) (nI j) h13 (fun r14 h15 => Game_needAlong r12 r14 h15 R)) := by
    intro R j hj hb r
    have we := (cwy_tb O hj).mp hb
    have hl := ttA_lt O hp we
    have t1 := tw_cn (p := p) hj
    have e1 : ∀ {R : Int32 → Hp → Prop}, R (nI (ttA a (cnW p j))) h → Land_target (nI p) (nI j) h R := fun r => by
      have := c_tgt L O (Q := _) we r
      rw [t1] at this; exact this
    have e2 : ∀ {R : Int32 → Hp → Prop}, R (ppA a w (cnW p j)) h → Land_payOf (nI w) (nI j) h R := fun r => by
      have := c_pay L O (Q := _) hw we r
      rw [t1] at this; exact this
    refine e1 (e2 (c_along (f := f) (by omega) (e86 _ (by omega)) (hf _ hl) (ppA_bd _ _ _) ?_))
    have : alN 792 (f (ttA a (cnW p j))) (ppA a w (cnW p j)).toInt = al (cnW p j) := hal _
    rw [this]; exact r
  obtain ⟨e0, e024, w0⟩ := ways_ne O (w := w) (p := p) (by omega)
  have cv := cwy_lt O w p
  unfold Game_needFrom
  refine c_own L O (by omega) ?_
  rintro J rfl
  by_cases m : mnA a p = true
  · rw [if_pos m]
    refine brT' rfl (c_waysFrom L O hw (by omega) ?_)
    rintro J rfl
    refine brF (by decide) ?_
    refine pk_loop (σ := Nat) (fun n i v => Game_needFrom_L41 (nI w) (nI p) 1 (nI (cwy a w p)) Q n (nI v) (nI i) h) (fun i v => v ≤ 792 ∧ (∀ j, j < i → (cwy a w p).testBit j = true → v ≤ al (cnW p j)) ∧ (v = 792 ∨ ∃ j, j < i ∧ (cwy a w p).testBit j = true ∧ al (cnW p j) = v)) 17 0 792 (by omega) ⟨by omega, fun j hj => absurd hj (by omega), Or.inl rfl⟩ (fun n v J => ?_) (fun n i v hi J hk => ?_)
    · unfold Game_needFrom_L41
      refine pk_lt 16 17 (fun _ => k v ?_) (fun c => absurd c (by omega))
      unfold IsN
      rw [if_pos m]
      have all : ∀ e, wayOK a w p e → v ≤ al e := fun e he => by
        obtain ⟨t1, t2⟩ := cn_tw O (by omega) he
        have := J.2.1 (tw e) t2 ((cwy_tb O t2).mpr (by rw [t1]; exact he))
        rw [t1] at this; exact this
      refine ⟨fun e he => by rw [hal]; exact all e he, ?_⟩
      rcases J.2.2 with c | ⟨j, j1, j2, j3⟩
      · refine ⟨e0, w0, ?_⟩
        rw [hal]
        have := all e0 w0
        have := al792 e0
        omega
      · exact ⟨cnW p j, (cwy_tb O j1).mp j2, by rw [hal]; exact j3⟩
    · unfold Game_needFrom_L41
      refine pk_lt 16 i (fun c => absurd c (by omega)) (fun _ => ?_)
      rintro J' rfl
      rw [z_bit (by omega) (by omega)]
      refine ⟨fun c => ?_, fun c => ?_⟩
      · rintro _ rfl
        rw [nI_1]
        refine hk v ⟨J.1, fun j hj hb => ?_, ?_⟩
        · by_cases e : j = i
          · subst e; exact absurd hb c
          · exact J.2.1 j (by omega) hb
        · rcases J.2.2 with d | ⟨j, j1, j2, j3⟩
          · exact Or.inl d
          · exact Or.inr ⟨j, by omega, j2, j3⟩
      · refine step hi c ?_
        rintro J' rfl
        refine brF (by decide) ?_
        have a7 := al792 (cnW p i)
        have j7 := J.1
        unfold J9_min_7cf53
        refine pk_lt (al (cnW p i)) v (fun d => ?_) (fun d => ?_)
        · rintro _ rfl
          rw [nI_1]
          refine hk (al (cnW p i)) ⟨a7, fun j hj hb => ?_, Or.inr ⟨i, by omega, c, rfl⟩⟩
          by_cases e : j = i
          · subst e; exact Nat.le_refl _
          · have := J.2.1 j (by omega) hb; omega
        · rintro _ rfl
          rw [nI_1]
          refine hk v ⟨J.1, fun j hj hb => ?_, ?_⟩
          · by_cases e : j = i
            · subst e; exact d
            · exact J.2.1 j (by omega) hb
          · rcases J.2.2 with d | ⟨j, j1, j2, j3⟩
            · exact Or.inl d
            · exact Or.inr ⟨j, by omega, j2, j3⟩
  · rw [if_neg m]
    refine brF' (by decide) (c_waysFrom L O hw (by omega) ?_)
    rintro J rfl
    refine brT rfl ?_
    refine pk_loop (σ := Nat) (fun n i v => Game_needFrom_L41 (nI w) (nI p) 0 (nI (cwy a w p)) Q n (nI v) (nI i) h) (fun i v => v ≤ 792 ∧ (∀ j, j < i → (cwy a w p).testBit j = true → al (cnW p j) ≤ v) ∧ (v = 0 ∨ ∃ j, j < i ∧ (cwy a w p).testBit j = true ∧ al (cnW p j) = v)) 17 0 0 (by omega) ⟨by omega, fun j hj => absurd hj (by omega), Or.inl rfl⟩ (fun n v J => ?_) (fun n i v hi J hk => ?_)
    · unfold Game_needFrom_L41
      refine pk_lt 16 17 (fun _ => k v ?_) (fun c => absurd c (by omega))
      unfold IsN
      rw [if_neg m]
      have all : ∀ e, wayOK a w p e → al e ≤ v := fun e he => by
        obtain ⟨t1, t2⟩ := cn_tw O (by omega) he
        have := J.2.1 (tw e) t2 ((cwy_tb O t2).mpr (by rw [t1]; exact he))
        rw [t1] at this; exact this
      refine ⟨fun e he => by rw [hal]; exact all e he, ?_⟩
      rcases J.2.2 with c | ⟨j, j1, j2, j3⟩
      · refine ⟨e0, w0, ?_⟩
        rw [hal]
        have := all e0 w0
        omega
      · exact ⟨cnW p j, (cwy_tb O j1).mp j2, by rw [hal]; exact j3⟩
    · unfold Game_needFrom_L41
      refine pk_lt 16 i (fun c => absurd c (by omega)) (fun _ => ?_)
      rintro J' rfl
      rw [z_bit (by omega) (by omega)]
      refine ⟨fun c => ?_, fun c => ?_⟩
      · rintro _ rfl
        rw [nI_1]
        refine hk v ⟨J.1, fun j hj hb => ?_, ?_⟩
        · by_cases e : j = i
          · subst e; exact absurd hb c
          · exact J.2.1 j (by omega) hb
        · rcases J.2.2 with d | ⟨j, j1, j2, j3⟩
          · exact Or.inl d
          · exact Or.inr ⟨j, by omega, j2, j3⟩
      · refine step hi c ?_
        rintro J' rfl
        refine brT rfl ?_
        have a7 := al792 (cnW p i)
        have j7 := J.1
        unfold J9_max_7cf53
        refine pk_lt v (al (cnW p i)) (fun d => ?_) (fun d => ?_)
        · rintro _ rfl
          rw [nI_1]
          refine hk (al (cnW p i)) ⟨a7, fun j hj hb => ?_, Or.inr ⟨i, by omega, c, rfl⟩⟩
          by_cases e : j = i
          · subst e; exact Nat.le_refl _
          · have := J.2.1 j (by omega) hb; omega
        · rintro _ rfl
          rw [nI_1]
          refine hk v ⟨J.1, fun j hj hb => ?_, ?_⟩
          · by_cases e : j = i
            · subst e; exact d
            · exact J.2.1 j (by omega) hb
          · rcases J.2.2 with d | ⟨j, j1, j2, j3⟩
            · exact Or.inl d
            · exact Or.inr ⟨j, by omega, j2, j3⟩
/-- a round of raising: nothing changed, or something rose -/
def RdN (a : Row) (w T : Nat) (f0 f : Nat → Nat) (i : Nat) (chg : Prop) : Prop := RsN (NeedW a w) (ttA a) (pIA a w) (mnA a) T (nP a) f ∧ (∀ q, q < nP a → f0 q ≤ f q) ∧ (¬ chg → (∀ q, f q = f0 q) ∧ ∀ q, q < i → IsN (NeedW a w) (ttA a) (pIA a w) (mnA a) T f0 q (f0 q)) ∧ (chg → ∃ q, q < nP a ∧ f0 q < f q)
theorem RdN_up {a : Row} (O : LandOK a) {w T : Nat} {f0 f : Nat → Nat} {i v : Nat} {chg : Prop} (hi : i < nP a) (R : RdN a w T f0 f i chg) (hv : IsN (NeedW a w) (ttA a) (pIA a w) (mnA a) T f i v) : RdN a w T f0 (upN f i v) (i + 1) (chg ∨ ¬ v = f i) := by
  have hW : ∀ p e, p < nP a → NeedW a w p e → ttA a e < nP a := fun p e hp he => ttA_lt O hp he
  obtain ⟨r1, r2, r3, r4⟩ := R
  obtain ⟨u1, u2⟩ := RsN_up _ _ _ _ hW hi r1 hv
  have ge : ∀ q, f q ≤ upN f i v q := fun q => by
    unfold upN
    by_cases e : q = i
    · rw [if_pos e, e]; exact u2
    · rw [if_neg e]; exact Nat.le_refl _
  refine ⟨u1, fun q hq => Nat.le_trans (r2 q hq) (ge q), fun hn => ?_, fun hc => ?_⟩
  · have h1 : ¬ chg := fun e => hn (Or.inl e)
    have h2 : v = f i := Classical.byContradiction (fun e => hn (Or.inr e))
    obtain ⟨s1, s2⟩ := r3 h1
    refine ⟨fun q => ?_, fun q hq => ?_⟩
    · unfold upN
      by_cases e : q = i
      · rw [if_pos e, h2, e]; exact s1 i
      · rw [if_neg e]; exact s1 q
    · by_cases e : q = i
      · subst e
        have : f = f0 := funext s1
        rw [this] at hv h2
        rw [h2] at hv; exact hv
      · exact s2 q (by omega)
  · by_cases c : chg
    · obtain ⟨q, q1, q2⟩ := r4 c
      exact ⟨q, q1, Nat.lt_of_lt_of_le q2 (ge q)⟩
    · have h2 : ¬ v = f i := hc.resolve_left c
      refine ⟨i, hi, ?_⟩
      have := (r3 c).1 i
      show f0 i < if i = i then v else f i
      rw [if_pos rfl]; omega
theorem RdN_0 {a : Row} {w T : Nat} {f : Nat → Nat} (R : RsN (NeedW a w) (ttA a) (pIA a w) (mnA a) T (nP a) f) : RdN a w T f f 0 False := ⟨R, fun _ _ => Nat.le_refl _, fun _ => ⟨fun _ => rfl, fun q hq => absurd hq (by omega)⟩, fun c => c.elim⟩
theorem RdN_end {a : Row} {w T : Nat} {f0 f : Nat → Nat} {chg : Prop} (R : RdN a w T f0 f (nP a) chg) : RsN (NeedW a w) (ttA a) (pIA a w) (mnA a) T (nP a) f ∧ (¬ chg → LFN (NeedW a w) (ttA a) (pIA a w) (mnA a) T (nP a) f) ∧ (chg → smN f0 (nP a) < smN f (nP a)) := by
  obtain ⟨r1, r2, r3, r4⟩ := R
  refine ⟨r1, fun hn => ?_, fun hc => (smN_mono r2).2 (r4 hc)⟩
  obtain ⟨s1, s2⟩ := r3 hn
  have : f = f0 := funext s1
  rw [this] at r1 ⊢
  exact ⟨s2, r1.2.2⟩
theorem c_raise {h0 : Hp} {Q : Hp → Prop} {a : Row} {w : Nat} (L0 : Lnd h0 a) (O : LandOK a) (hw : w < 10) (k : ∀ h1 f, Fp (fun o _ => o == 86) h0 h1 → (∀ q, q < 8 → gI h1 86 q = nI (f q)) → LFN (NeedW a w) (ttA a) (pIA a w) (mnA a) 792 (nP a) f → Q h1) : Game_raiseNeeds (nI w) h0 Q := by
  have h8 := O.1.2.1
  have LL : ∀ {h : Hp}, Fp (fun o _ => o == 86) h0 h → Lnd h a := fun F => Lnd_k L0 (fun o j h1 h2 => F.1 o j (by simp; omega))
  unfold Game_raiseNeeds
  refine j_fill (n := 8) (by decide) (by decide) (fun h1 f1 z1 => ?_)
  refine pk_loop (σ := Int32 × (Nat → Nat) × Hp) (fun n i s => Game_raiseNeeds_L13 (nI w) Q n s.1 (nI i) s.2.2) (fun i s => Fp (fun o _ => o == 86) h0 s.2.2 ∧ (∀ q, q < 8 → gI s.2.2 86 q = nI (s.2.1 q)) ∧ RsN (NeedW a w) (ttA a) (pIA a w) (mnA a) 792 (nP a) s.2.1 ∧ (s.1 = 0 → LFN (NeedW a w) (ttA a) (pIA a w) (mnA a) 792 (nP a) s.2.1) ∧ (¬ s.1 = 0 → i ≤ smN s.2.1 (nP a))) 6337 0 (1, fun _ => 0, h1) (by omega) ⟨f1, fun q hq => z1 q hq, RsN_0 _ _ _ _, fun e => absurd (show (1 : Int32) = 0 from e) (by decide), fun _ => Nat.zero_le _⟩ (fun n s J => ?_) (fun n i s hi J hk => ?_)
  · obtain ⟨x3, f, h⟩ := s
    obtain ⟨F, e86, R, c1, c2⟩ := J
    unfold Game_raiseNeeds_L13
    refine pk_lt 6336 6337 (fun _ => k h f F e86 (c1 (Classical.byContradiction (fun e => ?_)))) (fun c => absurd c (by omega))
    have := c2 e
    have b : smN f (nP a) ≤ nP a * 792 := smN_le R.1
    have : nP a * 792 ≤ 8 * 792 := Nat.mul_le_mul_right _ h8
    have c2' : 6337 ≤ smN f (nP a) := c2 e
    omega
  · obtain ⟨x3, f0, h⟩ := s
    obtain ⟨F, e86, R, c1, c2⟩ := J
    unfold Game_raiseNeeds_L13
    refine pk_lt 6336 i (fun c => absurd c (by omega)) (fun _ => ⟨fun c => k h f0 F e86 (c1 c), fun c => ?_⟩)
    have c2' : i ≤ smN f0 (nP a) := c2 c
    refine pk_loop (σ := Int32 × (Nat → Nat) × Hp) (fun n' p s => Game_raiseNeeds_L30 (nI w) (nI i) _ n' s.1 (nI p) s.2.2) (fun p s => Fp (fun o _ => o == 86) h0 s.2.2 ∧ (∀ q, q < 8 → gI s.2.2 86 q = nI (s.2.1 q)) ∧ RdN a w 792 f0 s.2.1 p (¬ s.1 = 0)) (nP a) 0 (0, f0, h) (by omega) ⟨F, e86, by
      have := RdN_0 R
      have e : (¬ (0 : Int32) = 0) = False := by simp
      show RdN a w 792 f0 f0 0 (¬ (0 : Int32) = 0)
      rw [e]; exact this⟩ (fun n' s J => ?_) (fun n' p s hp J hk' => ?_)
    · obtain ⟨x, f, h2⟩ := s
      obtain ⟨F2, e862, RR⟩ := J
      have F2 : Fp (fun o _ => o == 86) h0 h2 := F2
      unfold Game_raiseNeeds_L30
      dsimp only
      rw [(LL F2).1, O.1.2.2]
      refine pk_le (nP a) (nP a) (fun _ => ?_) (fun c => absurd c (by omega))
      rintro _ rfl
      rw [nI_1]
      obtain ⟨g1, g2, g3⟩ := RdN_end RR
      refine hk (x, f, h2) ⟨F2, e862, g1, fun e => g2 (fun c => c e), fun e => ?_⟩
      have := g3 e
      show i + 1 ≤ smN f (nP a)
      have : smN f0 (nP a) < smN f (nP a) := this
      omega
    · obtain ⟨x, f, h2⟩ := s
      obtain ⟨F2, e862, RR⟩ := J
      have F2 : Fp (fun o _ => o == 86) h0 h2 := F2
      have e862 : ∀ q, q < 8 → gI h2 86 q = nI (f q) := e862
      have RR : RdN a w 792 f0 f p (¬ x = 0) := RR
      have hf := RR.1.1
      unfold Game_raiseNeeds_L30
      dsimp only
      rw [(LL F2).1, O.1.2.2]
      refine pk_le (nP a) p (fun c => absurd c (by omega)) (fun _ => pk_le 8 p (fun c => absurd c (by omega)) (fun _ => ?_))
      refine c_needFrom (LL F2) O hw hp e862 hf (fun v hv => ?_)
      have up := RdN_up O hp RR hv
      have vT := IsN_le _ _ _ _ hv
      have rise := RR.1.2.1 p hp v hv
      have fin : ∀ y : Int32, (¬ y = 0 ↔ (¬ x = 0 ∨ ¬ v = f p)) → vp_in (nI p) 8 ∧ ∀ h6 : Hp, h6 = sI h2 86 p (nI v) → ∀ v7 : Int32, v7 = (nI p + 1) → Game_raiseNeeds_L30 (nI w) (nI i) (fun x3_10 h11 => ∀ v12 : Int32, v12 = (nI i + 1) → Game_raiseNeeds_L13 (nI w) Q n x3_10 v12 h11) n' y v7 h6 := by
        intro y hy
        refine ⟨pk_in p 8 (by omega), ?_⟩
        rintro _ rfl _ rfl
        rw [nI_1 p]
        refine hk' (y, upN f p v, sI h2 86 p (nI v)) ⟨Fp.sI F2 rfl, fun q hq => ?_, ?_⟩
        · show gI (sI h2 86 p (nI v)) 86 q = nI (if q = p then v else f q)
          by_cases e : q = p
          · subst e; rw [sI_s, if_pos rfl]
          · rw [sI_k e, if_neg e]; exact e862 q hq
        · show RdN a w 792 f0 (upN f p v) (p + 1) (¬ y = 0)
          have e : (¬ y = 0) = (¬ x = 0 ∨ ¬ v = f p) := propext hy
          rw [e]; exact up
      rintro J80 rfl J75 rfl
      rw [cl p, e862 p (by omega)]
      refine ⟨fun c => fin 1 ⟨fun _ => Or.inl c, fun _ => by decide⟩, fun c => ⟨pk_in p 8 (by omega), ?_⟩⟩
      have fp := hf p hp
      refine pk_le v (f p) (fun d => fin 0 ⟨fun e => absurd rfl e, fun e => ?_⟩) (fun d => fin 1 ⟨fun _ => Or.inr (by omega), fun _ => by decide⟩)
      rcases e with e | e
      · exact absurd c e
      · omega
def encN (v : Nat) : Int32 := if v < 801 then nI v else 268435456
theorem encN_far {v : Nat} : encN v = 268435456 ↔ 801 ≤ v := by
  unfold encN
  by_cases q : v < 801
  · rw [if_pos q]
    have : nI v = 268435456 ↔ v = 268435456 := nI_eq (a := v) (b := 268435456) (by omega) (by omega)
    rw [this]; omega
  · rw [if_neg q]; simp; omega
