/-! the class's game solved -/
theorem val_ex {a : Row} (O : LandOK a) (w : Nat) : ∃ val, IsVal a w val := duel (ttA a) (pIA a w) (me := mnA a) (GW_A O w)
theorem IsVal_u {a : Row} {w : Nat} {v v' : Nat → Int} (h : IsVal a w v) (h' : IsVal a w v') : ∀ p, p < nP a → v p = v' p := by
  intro p hp
  obtain ⟨⟨X, x1, x2⟩, _, m, _⟩ := h
  obtain ⟨⟨X', x1', x2'⟩, _, m', _⟩ := h'
  have a1 := m X' x1' p hp
  have a2 := m' X x1 p hp
  rw [x2' p hp] at a1
  rw [x2 p hp] at a2
  omega
theorem FB_u {a : Row} {w who : Nat} {v v' : Nat → Int} {X X' : Nat → List Nat} (e : ∀ p, p < nP a → v p = v' p) (h : FB a w who v X) (h' : FB a w who v' X') : X = X' := by
  obtain ⟨l1, l2, e1, b1, n1⟩ := h
  obtain ⟨m1, m2, e2, b2, n2⟩ := h'
  have g1 : (PLA a w who)[l1.length]? = some X := by rw [e1, List.getElem?_append_right (Nat.le_refl _), Nat.sub_self]; rfl
  have g2 : (PLA a w who)[m1.length]? = some X' := by rw [e2, List.getElem?_append_right (Nat.le_refl _), Nat.sub_self]; rfl
  rcases Nat.lt_trichotomy l1.length m1.length with c | c | c
  · rw [e2, List.getElem?_append_left c] at g1
    obtain ⟨i1, i2⟩ := List.getElem?_eq_some_iff.mp g1
    have : X ∈ m1 := i2 ▸ List.getElem_mem i1
    exact absurd (fun p hp => (b1 p hp).trans (e p hp)) (n2 X this)
  · rw [c, g2] at g1
    exact (Option.some.inj g1).symm
  · rw [e1, List.getElem?_append_left c] at g2
    obtain ⟨i1, i2⟩ := List.getElem?_eq_some_iff.mp g2
    have : X' ∈ l1 := i2 ▸ List.getElem_mem i1
    exact absurd (fun p hp => (b2 p hp).trans (e p hp).symm) (n1 X' this)
theorem PLX_in {a : Row} {w who : Nat} {X : Nat → Nat} (h : X ∈ PLXA a w who) : (fun q => bl (X q)) ∈ PLA a w who := by
  rw [PLA_X]; exact List.mem_map.mpr ⟨X, h, rfl⟩
theorem PLA_in {a : Row} {w who : Nat} {X : Nat → List Nat} (h : X ∈ PLA a w who) : ∃ Y, Y ∈ PLXA a w who ∧ (fun q => bl (Y q)) = X := by
  rw [PLA_X] at h; exact List.mem_map.mp h
theorem val_b {a : Row} (O : LandOK a) {w : Nat} {val : Nat → Int} (h : IsVal a w val) {p : Nat} (hp : p < nP a) : -83160 ≤ val p ∧ val p ≤ 83160 := by
  obtain ⟨⟨X, x1, x2⟩, _⟩ := h
  obtain ⟨Y, y1, rfl⟩ := PLA_in x1
  have ok := PLX_ok O y1
  obtain ⟨⟨R, r1, _, r3⟩, _⟩ := sv_is (ttA a) (pIA a w) (who := 1) (GW_X O ok) hp
  have e : sv (ttA a) (pIA a w) 1 (fun q => bl (Y q)) (nP a) p = val p := x2 p hp
  rw [← e, ← r3]
  exact mR_b O ok r1
theorem VB_val {a : Row} {w who : Nat} {v val : Nat → Int} (hv : IsVal a w val) (hw : who < 2) (hb : VB a w who (PLXA a w who) v) : ∀ p, p < nP a → v p = val p := by
  intro p hp
  obtain ⟨b1, X, b2, b3⟩ := hb p hp
  obtain ⟨⟨X1, m1, e1⟩, ⟨X0, m0, e0⟩, u1, u0⟩ := hv
  have w01 : who = 0 ∨ who = 1 := by omega
  rcases w01 with rfl | rfl
  · obtain ⟨Y, y1, rfl⟩ := PLA_in m0
    have c1 := b1 Y y1
    have c2 : svX a w 0 Y p = val p := e0 p hp
    have c3 : val p ≤ svX a w 0 X p := u0 _ (PLX_in b2) p hp
    unfold btr at c1
    omega
  · obtain ⟨Y, y1, rfl⟩ := PLA_in m1
    have c1 := b1 Y y1
    have c2 : svX a w 1 Y p = val p := e1 p hp
    have c3 : svX a w 1 X p ≤ val p := u1 _ (PLX_in b2) p hp
    unfold btr at c1
    omega
theorem val_has {a : Row} {w who : Nat} {val : Nat → Int} (hv : IsVal a w val) (hw : who < 2) : ∃ Y, Y ∈ PLXA a w who ∧ isBX a w who val Y := by
  obtain ⟨⟨X1, m1, e1⟩, ⟨X0, m0, e0⟩, _⟩ := hv
  have w01 : who = 0 ∨ who = 1 := by omega
  rcases w01 with rfl | rfl
  · obtain ⟨Y, y1, rfl⟩ := PLA_in m0
    exact ⟨Y, y1, e0⟩
  · obtain ⟨Y, y1, rfl⟩ := PLA_in m1
    exact ⟨Y, y1, e1⟩
theorem cnX_A {a : Row} {w who : Nat} {v val : Nat → Int} {p : Nat} (e : v p = val p) : cnX a w who (PLXA a w who) v p = cntA a w who val p := by
  unfold cnX cntA
  rw [PLA_X, List.filter_map, List.length_map, e]
  rfl
theorem FBX_A {a : Row} {w who : Nat} {v val : Nat → Int} {X : Nat → Nat} (e : ∀ p, p < nP a → v p = val p) (h : FBX a w who v (PLXA a w who) X) : FB a w who val (fun q => bl (X q)) ∧ X ∈ PLXA a w who := by
  obtain ⟨l1, l2, e1, b1, n1⟩ := h
  refine ⟨⟨l1.map (fun Y q => bl (Y q)), l2.map (fun Y q => bl (Y q)), by rw [PLA_X, e1, List.map_append]; rfl, fun p hp => (b1 p hp).trans (e p hp), fun Z hZ hb => ?_⟩, by rw [e1]; exact List.mem_append_right _ List.mem_cons_self⟩
  obtain ⟨Y, y1, rfl⟩ := List.mem_map.mp hZ
  exact n1 Y y1 (fun p hp => (hb p hp).trans (e p hp).symm)
theorem WS_end {a : Row} {w who o4 : Nat} {fnd : Int32} {h : Hp} {val : Nat → Int} (hv : IsVal a w val) (hw : who < 2) (W : WS a w who o4 (PLXA a w who) fnd h) : (∀ p, p < nP a → (gI h 82 p).toInt = val p ∧ gI h o4 p = nI (cntA a w who val p)) ∧ ∃ X, X ∈ PLXA a w who ∧ FB a w who val (fun q => bl (X q)) ∧ ∀ p, p < nP a → ownB (mnA a) who p = true → gI h 83 p = nI (tw (low (X p))) := by
  obtain ⟨Y, y1, y2⟩ := val_has hv hw
  rcases W with ⟨z, _⟩ | ⟨_, v, vb, vals, fs⟩
  · rw [z] at y1; cases y1
  · have e := VB_val hv hw vb
    refine ⟨fun p hp => ⟨by rw [← e p hp]; exact (vals p hp).1, by rw [(vals p hp).2, cnX_A (e p hp)]⟩, ?_⟩
    rcases fs with ⟨_, nb⟩ | ⟨_, X, fb, ch⟩
    · exact absurd (fun p hp => (y2 p hp).trans (e p hp).symm) (nb Y y1)
    · obtain ⟨f1, f2⟩ := FBX_A e fb
      exact ⟨X, f2, f1, ch⟩
theorem own_who {a : Row} {p : Nat} : ownB (mnA a) (if mnA a p then 1 else 0) p = true := by
  unfold ownB
  cases mnA a p <;> rfl
/-- what the class may change when it solves -/
def scG : Nat → Nat → Bool := fun o k => scD o k || (decide (80 ≤ o) && decide (o ≤ 85))
theorem scG_D (o k : Nat) (h : scG o k = false) : scD o k = false := by
  simp only [scG, Bool.or_eq_false_iff] at h; exact h.1
theorem scG_8 {o k : Nat} (h : scG o k = false) : ¬ (80 ≤ o ∧ o ≤ 85) := by
  simp only [scG, Bool.or_eq_false_iff, Bool.and_eq_false_iff, decide_eq_false_iff_not] at h
  have := h.2; omega
theorem scG_WP {a : Row} {o4 who : Nat} (ho : o4 = 84 ∨ o4 = 85) (o k : Nat) (h : scG o k = false) : oWP a o4 who o k = false := by
  have h1 := scD_7 (scG_D o k h)
  have h2 := scG_8 h
  simp only [oWP, Bool.or_eq_false_iff, Bool.and_eq_false_iff, decide_eq_false_iff_not, beq_eq_false_iff_ne]
  omega
theorem scG_AW (o k : Nat) (h : scG o k = false) : oAW o k = false := scD_AW o k (scG_D o k h)
theorem c_solve {a : Row} {w : Nat} {h0 : Hp} {Q : Hp → Prop} (L0 : Lnd h0 a) (O : LandOK a) (hw : w < 10) (G0 : gI h0 80 0 = -1 ∨ ∃ w', w' < 10 ∧ gI h0 80 0 = nI w' ∧ GameR h0 a w') (k : ∀ h1, Fp scG h0 h1 → gI h1 80 0 = nI w → GameR h1 a w → Q h1) : Game_solve (nI w) h0 Q := by
  have h8 := O.1.2.1
  unfold Game_solve
  refine ⟨fun _ => ?_, fun e => ?_⟩
  · refine pk_loop (σ := Hp) (fun n i h => Game_solve_L12 (nI w) _ n (nI i) h) (fun i h => Fp (fun o _ => o == 81) h0 h ∧ ∀ p, p < i → gI h 81 p = nI (cwy a w p)) 8 0 h0 (by omega) ⟨Fp.rf _ _, fun p hp => absurd hp (by omega)⟩ (fun n h1 J => ?_) (fun n i h hi J hk => ?_)
    · unfold Game_solve_L12
      refine pk_le 8 8 (fun _ => ?_) (fun c => absurd c (by omega))
      obtain ⟨F1, e81⟩ := J
      have L1 : Lnd h1 a := Lnd_k L0 (fun o j h1 h2 => F1.1 o j (by rw [beq_eq_false_iff_ne]; omega))
      have G1 : Fp scG h0 h1 := F1.mo (fun o k h => by have := scG_8 h; rw [beq_eq_false_iff_ne]; omega)
      obtain ⟨val, hval⟩ := val_ex O w
      refine c_allWays L1 O hw (fun h2 F2 V2 _ => ?_)
      have FL2 : FLg a w h2 := fun p hp => by rw [F2.1 81 p rfl]; exact e81 p (by omega)
      refine c_weighPlans (who := 0) (o4 := 85) O hw (by omega) (Or.inr rfl) V2 FL2 (fun h3 f3 F3 W3 => ?_)
      obtain ⟨r3, X0, x0, fb0, ch0⟩ := WS_end hval (by omega) W3
      have n3 : ∀ o k, (14 ≤ o ∧ o ≤ 19) ∨ o = 81 → oWP a 85 0 o k = false := fun o k h => by
        simp only [oWP, Bool.or_eq_false_iff, Bool.and_eq_false_iff, decide_eq_false_iff_not, beq_eq_false_iff_ne]; omega
      have L3 : Lnd h3 a := Lnd_k V2.1 (fun o j h1 h2 => F3.1.1 o j (n3 o j (Or.inl ⟨h1, h2⟩)))
      refine c_allWays L3 O hw (fun h4 F4 V4 _ => ?_)
      have FL4 : FLg a w h4 := fun p hp => by rw [F4.1 81 p rfl, F3.1.1 81 p (n3 _ _ (Or.inr rfl))]; exact FL2 p hp
      refine c_weighPlans (who := 1) (o4 := 84) O hw (by omega) (Or.inl rfl) V4 FL4 (fun h5 f5 F5 W5 => ?_)
      obtain ⟨r5, X1, x1, fb1, ch1⟩ := WS_end hval (by omega) W5
      rintro _ rfl
      have FF : Fp scG h0 (sI h5 80 0 (nI w)) := Fp.sI ((((G1.tr (F2.mo scG_AW)).tr (F3.1.mo (scG_WP (Or.inr rfl)))).tr (F4.mo scG_AW)).tr (F5.1.mo (scG_WP (Or.inl rfl)))) rfl
      refine k _ FF (by rw [sI_s]) ⟨val, fun q => bl (X1 q), fun q => bl (X0 q), hval, fb1, fb0, fun p hp => ⟨?_, ?_, ?_, fun e he => ?_⟩⟩
      · rw [sI_o (by decide)]; exact i32_of (r5 p hp).1
      · rw [sI_o (by decide)]; exact (r5 p hp).2
      · rw [sI_o (by decide), F5.1.1 85 p (by simp only [oWP, Bool.or_eq_false_iff, Bool.and_eq_false_iff, decide_eq_false_iff_not, beq_eq_false_iff_ne]; omega), F4.1 85 p rfl]; exact (r3 p hp).2
      · rw [sI_o (by decide)]
        by_cases m : mnA a p = true
        · rw [if_pos m] at he
          have ow : ownB (mnA a) 1 p = true := by have := own_who (a := a) (p := p); rw [if_pos m] at this; exact this
          obtain ⟨e', e1, e2, e3⟩ := PLX_own x1 hp ow
          have he : bl (X1 p) = [e] := he
          rw [e3, bl_pow e2] at he
          rw [ch1 p hp ow, e3, low_pow (by omega)]
          rw [(List.cons.inj he).1]
        · rw [if_neg m] at he
          have ow : ownB (mnA a) 0 p = true := by have := own_who (a := a) (p := p); rw [if_neg m] at this; exact this
          have ow1 : ¬ ownB (mnA a) 1 p = true := by
            unfold ownB; rw [Bool.eq_false_iff.mpr m]; decide
          obtain ⟨e', e1, e2, e3⟩ := PLX_own x0 hp ow
          have he : bl (X0 p) = [e] := he
          rw [e3, bl_pow e2] at he
          rw [F5.1.1 83 p (by simp only [oWP, Bool.eq_false_iff.mpr ow1, Bool.and_false, Bool.or_false]; rfl), F4.1 83 p rfl, ch0 p hp ow, e3, low_pow (by omega)]
          rw [(List.cons.inj he).1]
    · have L1 : Lnd h a := Lnd_k L0 (fun o j h1 h2 => J.1.1 o j (by rw [beq_eq_false_iff_ne]; omega))
      unfold Game_solve_L12
      refine pk_le 8 i (fun c => absurd c (by omega)) (fun _ => c_waysFrom L1 O hw hi ⟨pk_in i 8 hi, ?_⟩)
      rw [cl i]
      rintro _ rfl _ rfl
      rw [nI_1 i]
      refine hk _ ⟨Fp.sI J.1 rfl, fun p hp => ?_⟩
      by_cases c : p = i
      · subst c; rw [sI_s]
      · rw [sI_k c]; exact J.2 p (by omega)
  · rcases G0 with z | ⟨w', hw', e', R'⟩
    · rw [z] at e
      have := congrArg Int32.toInt e
      rw [nI_toInt (by omega)] at this
      have h3 : (-1 : Int32).toInt = -1 := by decide
      omega
    · have : w' = w := by rw [e', nI_eq (by omega) (by omega)] at e; exact e
      subst this
      exact k h0 (Fp.rf _ _) e' R'
/-! the state between calls, the game solved anew -/
def sc3 : Nat → Nat → Bool := fun o k => sc2 o k || (decide (80 ≤ o) && decide (o ≤ 85))
theorem sc3_f {o k : Nat} (h : sc2 o k = false) (h2 : ¬ (80 ≤ o ∧ o ≤ 85)) : sc3 o k = false := by
  simp only [sc3, Bool.or_eq_false_iff, Bool.and_eq_false_iff, decide_eq_false_iff_not]; exact ⟨h, by omega⟩
theorem Inv_k3 {B : Int} {h h1 : Hp} (I : Inv B h) (F : Fp sc3 h h1) (G : iGame h1) : Inv B h1 := by
  obtain ⟨⟨l1, l2⟩, ⟨s1, s2⟩, ⟨m, nx, p1, p2, p3, p4, p5, p6⟩, ⟨g1, g2⟩, i5, i6, i7, i8, i9⟩ := I
  have e99 : ∀ k, gI h1 99 k = gI h 99 k := fun k => F.1 99 k rfl
  have eR : rowM h1 = rowM h := funext (fun k => e99 k)
  have eS : stdM h1 = stdM h := funext (fun k => e99 _)
  have eG : ∀ i, segM h1 i = segM h i := fun i => funext (fun k => e99 _)
  have eI : ∀ i, rowI h1 i = rowI h i := fun i => funext (fun k => e99 _)
  have elo : ∀ o k, o < 73 → o ≠ 22 → o ≠ 23 → gI h1 o k = gI h o k := fun o k a b c => F.1 o k (sc3_f (sc2_lo a b c) (by omega))
  have elj : ∀ o k, o < 73 → o ≠ 22 → o ≠ 23 → gJ h1 o k = gJ h o k := fun o k a b c => F.2 o k (sc3_f (sc2_lo a b c) (by omega))
  refine ⟨⟨by rw [eR]; exact l1, by rw [eR]; exact LndR_k l2 (fun x j hx => elo x j (by omega) (by omega) (by omega))⟩, ⟨by rw [eR, eS]; exact s1, by rw [eS]; exact StdR_k s2 (fun x j hx => elo x j (by omega) (by omega) (by omega)) (elj 20 1 (by omega) (by omega) (by omega))⟩, ⟨m, nx, p1, p2, ?_, ?_, ?_, fun i hi => ?_⟩, ⟨?_, fun i hi hb => ?_⟩, fun t ht => ?_, ?_, ?_, G, ?_⟩
  · rw [e99]; exact p3
  · rw [elo 24 2 (by omega) (by omega) (by omega)]; exact p4
  · rw [elo 24 1 (by omega) (by omega) (by omega)]; exact p5
  · rw [eR, eG]
    have := Nat.mod_lt (nx + 10 - m + i) (show 0 < 10 by decide)
    exact ⟨(p6 i hi).1, StdR_k (p6 i hi).2 (fun x j hx => elo x j (by omega) (by omega) (by omega)) (elj _ 1 (by omega) (by omega) (by omega))⟩
  · obtain ⟨b, b1, b2, b3⟩ := g1
    refine ⟨b, b1, by rw [elo 0 15 (by omega) (by omega) (by omega)]; exact b2, fun i hi => ?_⟩
    rw [F.1 100 i rfl]; exact b3 i hi
  · rw [F.1 100 i rfl] at hb
    have := g2 i hi hb
    rw [eI]
    exact ⟨⟨this.1.1, LndR_k this.1.2 (fun x j hx => elo x j (by omega) (by omega) (by omega))⟩, this.2.1, StdR_k this.2.2 (fun x j hx => elo x j (by omega) (by omega) (by omega)) (elj _ 1 (by omega) (by omega) (by omega))⟩
  · obtain ⟨⟨t1, t2, t3⟩, q, q1, q2, q3⟩ := i5 t ht
    rw [F.1 124 t rfl, F.1 125 t rfl, elo (47 + 2 * t) 0 (by omega) (by omega) (by omega), elo (47 + 2 * t) 1 (by omega) (by omega) (by omega)]
    refine ⟨⟨t1, t2, t3⟩, q, q1, q2, fun k hk => ?_⟩
    rw [F.2 126 _ rfl, elj (48 + 2 * t) k (by omega) (by omega) (by omega)]
    exact q3 k hk
  · obtain ⟨q, q1, q2, q3, q4⟩ := i6
    refine ⟨q, q1, by rw [elo 0 1 (by omega) (by omega) (by omega)]; exact q2, by rw [F.1 98 5 rfl]; exact q3, fun k hk => ?_⟩
    rw [F.1 101 k rfl, elo 1 k (by omega) (by omega) (by omega)]
    exact q4 k hk
  · show gI h1 2 13 = gI h1 98 13 ∧ gI h1 2 14 = gI h1 98 14
    rw [elo 2 13 (by omega) (by omega) (by omega), elo 2 14 (by omega) (by omega) (by omega), F.1 98 13 rfl, F.1 98 14 rfl]
    exact i7
  · exact (F.1 90 0 rfl).trans i9
theorem scG_3 (o k : Nat) (h : sc3 o k = false) : scG o k = false := by
  simp only [sc3, Bool.or_eq_false_iff] at h
  simp only [scG, Bool.or_eq_false_iff]
  exact ⟨scD_2 o k h.1, h.2⟩
theorem sim_g {B : Int} {h : Hp} {K : Hp → Prop} {A M : Hp → (Int32 → Hp → Prop) → Prop} (I : Inv B h) (k : ∀ h2, Inv B h2 → K h2) (v : Int32) (hA : ∀ Q : Int32 → Hp → Prop, (∀ h1, Fp scG h h1 → iGame h1 → Q v h1) → A h Q) (hM : ∀ h1 (Q : Int32 → Hp → Prop), Inv B h1 → rowM h1 = rowM h → Fp scG h h1 → (∀ h2, Fp scM h1 h2 → Q v h2) → M h1 Q) : A h (fun r1 h1 => M h1 (fun r2 h2 => (r1 = r2 → K h2) ∧ (¬ r1 = r2 → False))) := by
  refine hA _ (fun h1 f1 g1 => ?_)
  have I1 := Inv_k3 I (f1.mo scG_3) g1
  refine hM h1 _ I1 (funext (fun j => f1.1 99 j rfl)) f1 (fun h2 f2 => ?_)
  exact simEnd (k h2 (Inv_k I1 (f2.mo scM_2)))
theorem sim_gJ {B : Int} {h : Hp} {K : Hp → Prop} {A M : Hp → (Int64 → Hp → Prop) → Prop} (I : Inv B h) (k : ∀ h2, Inv B h2 → K h2) (v : Int64) (hA : ∀ Q : Int64 → Hp → Prop, (∀ h1, Fp scG h h1 → iGame h1 → Q v h1) → A h Q) (hM : ∀ h1 (Q : Int64 → Hp → Prop), Inv B h1 → rowM h1 = rowM h → Fp scG h h1 → (∀ h2, Fp scM h1 h2 → Q v h2) → M h1 Q) : A h (fun r1 h1 => M h1 (fun r2 h2 => (r1 = r2 → K h2) ∧ (¬ r1 = r2 → False))) := by
  refine hA _ (fun h1 f1 g1 => ?_)
  have I1 := Inv_k3 I (f1.mo scG_3) g1
  refine hM h1 _ I1 (funext (fun j => f1.1 99 j rfl)) f1 (fun h2 f2 => ?_)
  exact simEnd (k h2 (Inv_k I1 (f2.mo scM_2)))
