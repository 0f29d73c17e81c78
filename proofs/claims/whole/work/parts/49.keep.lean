/-! rows that tell the same land -/
def LSame (a b : Row) : Prop := ∀ k, k < 1092 → ¬ (58 ≤ k ∧ k < 192) → b k = a k
theorem LSame.c {a b : Row} (h : LSame a b) (k : Nat) (hk : k < 58) : b k = a k := h k (by omega) (by omega)
section LE
theorem le_nP {a b : Row} (E : LSame a b) : nP b = nP a := by unfold nP; rw [E.c 1 (by omega)]
theorem le_nR {a b : Row} (E : LSame a b) : nR b = nR a := by unfold nR; rw [E.c 2 (by omega)]
theorem le_from {a b : Row} (E : LSame a b) {r : Nat} (hr : r < 16) : fromA b r = fromA a r := by unfold fromA; rw [E.c _ (by omega)]
theorem le_to {a b : Row} (E : LSame a b) {r : Nat} (hr : r < 16) : toA b r = toA a r := by unfold toA; rw [E.c _ (by omega)]
theorem le_codes {a b : Row} (E : LSame a b) {law : Nat} (hl : law < 2) (hc : codeOK a law) : codesA b law = codesA a law := by
  obtain ⟨⟨q, m, h1, h2, h3, h4⟩, -⟩ := hc
  unfold codesA
  rw [E.c (8 + law) (by omega), E.c (6 + law) (by omega)]
  apply List.map_congr_left
  intro k hk
  rw [List.mem_range, h2, nI_toInt (by omega)] at hk
  rw [h1, nI_toInt (by omega)]
  exact E _ (by omega) (by omega)
theorem le_words {a b : Row} (E : LSame a b) {r w : Nat} (hr : r < 16) : wordsA b r w = wordsA a r w := by
  funext j
  match j with
  | 0 => exact E.c _ (by omega)
  | 1 => exact E.c _ (by omega)
  | 2 => exact E.c _ (by omega)
  | 3 => rfl
  | (n + 4) => rfl
theorem le_pay {a b : Row} (O : LandOK a) (E : LSame a b) {r w : Nat} (hr : r < 16) : payA b w r = payA a w r := by
  unfold payA
  rw [E.c 4 (by omega), E.c (42 + r) (by omega), le_words E hr]
  by_cases q : a 4 = 1
  · rcases O.2.2.2.1 with q0 | ⟨_, hc⟩
    · rw [q0] at q; exact absurd q (by decide)
    · unfold rkA; rw [le_codes E (by decide) hc]
  · rw [if_neg q, if_neg q]
theorem le_opn {a b : Row} (O : LandOK a) (E : LSame a b) {r w : Nat} (hr : r < 16) : opnA b w r = opnA a w r := by
  unfold opnA
  rw [E.c 5 (by omega), le_words E hr]
  by_cases q : a 5 = 0
  · rw [if_pos q, if_pos q]
  · rcases O.2.2.2.2.1 with q0 | ⟨_, hc⟩
    · exact absurd q0 q
    · unfold rkA; rw [le_codes E (by decide) hc]
theorem le_obs {a b : Row} (O : LandOK a) (E : LSame a b) : obs b = obs a := by
  funext w p
  unfold obs
  rw [le_nR E]
  exact bset_cong (fun r hr => by rw [le_from E (by have := O.2.1.1; omega), le_opn O E (by have := O.2.1.1; omega)])
theorem le_wys {a b : Row} (O : LandOK a) (E : LSame a b) : wys b = wys a := by
  funext w p
  unfold wys; rw [le_obs O E]
theorem le_tt {a b : Row} (E : LSame a b) : ttA b = ttA a := by
  funext e
  unfold ttA
  by_cases q : e < 16
  · rw [if_pos q, if_pos q, le_to E q]
  · rw [if_neg q, if_neg q]
theorem le_pp {a b : Row} (O : LandOK a) (E : LSame a b) : ppA b = ppA a := by
  funext w e
  unfold ppA
  by_cases q : e < 16
  · rw [if_pos q, if_pos q, le_pay O E q]
  · rw [if_neg q, if_neg q]
theorem le_mn {a b : Row} (E : LSame a b) : mnA b = mnA a := by
  funext p
  unfold mnA; rw [E.c 3 (by omega)]
theorem le_ok {a b : Row} (O : LandOK a) (E : LSame a b) : LandOK b := by
  have h16 := O.2.1.1
  obtain ⟨o1, o2, o3, o4, o5, o6⟩ := O
  refine ⟨by rw [le_nP E, E.c 1 (by omega)]; exact o1, by rw [le_nR E, E.c 2 (by omega)]; exact o2, fun r hr => ?_, ?_, ?_, ?_⟩
  · rw [le_nR E] at hr
    rw [le_from E (by omega), le_to E (by omega), le_nP E, E.c _ (by omega), E.c _ (by omega)]
    exact o3 r hr
  · rw [E.c 4 (by omega)]
    rcases o4 with q | ⟨q, hc⟩
    · exact Or.inl q
    · refine Or.inr ⟨q, ?_⟩
      obtain ⟨c1, c2, c3⟩ := id hc
      unfold codeOK
      rw [le_codes E (by decide) hc, E.c _ (by omega), E.c _ (by omega)]
      exact ⟨c1, c2, c3⟩
  · rw [E.c 5 (by omega)]
    rcases o5 with q | ⟨q, hc⟩
    · exact Or.inl q
    · refine Or.inr ⟨q, ?_⟩
      obtain ⟨c1, c2, c3⟩ := id hc
      unfold codeOK
      rw [le_codes E (by decide) hc, E.c _ (by omega), E.c _ (by omega)]
      exact ⟨c1, c2, c3⟩
  · rw [E.c 3 (by omega), le_nP E]; exact o6
theorem le_lnd {a b : Row} (O : LandOK a) (E : LSame a b) {h : Hp} {o f t l op ps : Nat} (R : LndR h o f t l op ps a) : LndR h o f t l op ps b := by
  have h16 := O.2.1.1
  obtain ⟨r1, r2, r3, r4, r5, r6, r7, r8⟩ := R
  refine ⟨by rw [E.c 1 (by omega)]; exact r1, by rw [E.c 3 (by omega)]; exact r2, by rw [E.c 2 (by omega)]; exact r3, by rw [E.c 0 (by omega)]; exact r4, fun r hr => ?_, fun p hp => ?_, fun w hw => ?_, fun w r hw hr => ?_⟩
  · rw [le_nR E] at hr
    rw [E.c _ (by omega), E.c _ (by omega)]; exact r5 r hr
  · rw [r6 p hp, le_nR E]
    congr 1
    exact bset_cong (fun r hr => by rw [le_from E (by omega)])
  · rw [r7 w hw, le_nR E]
    congr 1
    exact bset_cong (fun r hr => by rw [le_opn O E (by omega)])
  · rw [le_nR E] at hr
    rw [le_pay O E (by omega)]; exact r8 w r hw hr
theorem le_std {a b : Row} (O : LandOK a) (E : LSame a b) {s : Row} {B : Int} (h : StdOK a s B) : StdOK b s B := by
  have h16 := O.2.1.1
  refine ⟨by rw [le_nP E]; exact h.1, h.2.1, fun p hp => ?_, h.2.2.2⟩
  rcases h.2.2.1 p hp with q | ⟨r, r1, r2, r3⟩
  · exact Or.inl q
  · exact Or.inr ⟨r, by rw [le_nR E]; exact r1, r2, by rw [le_from E (by omega)]; exact r3⟩
theorem le_wl {a b : Row} (O : LandOK a) (E : LSame a b) : wlA b = wlA a := by
  funext w p
  unfold wlA; rw [le_wys O E]
theorem le_pI {a b : Row} (O : LandOK a) (E : LSame a b) : pIA b = pIA a := by
  funext w e
  unfold pIA; rw [le_pp O E]
theorem le_sv {a b : Row} (O : LandOK a) (E : LSame a b) : svA b = svA a := by
  funext w who X p
  unfold svA; rw [le_tt E, le_pI O E, le_nP E]
theorem le_PL {a b : Row} (O : LandOK a) (E : LSame a b) : PLA b = PLA a := by
  funext w who
  unfold PLA; rw [le_mn E, le_wl O E, le_nP E]
theorem le_game {a b : Row} (O : LandOK a) (E : LSame a b) {h : Hp} {w : Nat} (R : GameR h a w) : GameR h b w := by
  obtain ⟨val, X1, X0, v1, v2, v3, v4⟩ := R
  refine ⟨val, X1, X0, ?_, ?_, ?_, fun p hp => ?_⟩
  · unfold IsVal; rw [le_PL O E, le_sv O E, le_nP E]; exact v1
  · unfold FB; rw [le_PL O E, le_sv O E, le_nP E]; exact v2
  · unfold FB; rw [le_PL O E, le_sv O E, le_nP E]; exact v3
  · rw [le_nP E] at hp
    have : cntA b = cntA a := by funext w who val p; unfold cntA; rw [le_PL O E, le_sv O E]
    rw [this, le_mn E]
    exact v4 p hp
end LE
/-! keeping the parts of the invariant -/
theorem kLand {h h1 : Hp} (I : iLand h) (E : LSame (rowM h) (rowM h1)) (k : ∀ o j, 14 ≤ o → o ≤ 19 → gI h1 o j = gI h o j) : iLand h1 :=
  ⟨le_ok I.1 E, le_lnd I.1 E (LndR_k I.2 (fun x j hx => k x j (by omega) (by omega)))⟩
theorem kGame {h h1 : Hp} (I : iGame h) (O : LandOK (rowM h)) (E : LSame (rowM h) (rowM h1)) (k : ∀ o j, 80 ≤ o → o ≤ 85 → gI h1 o j = gI h o j) : iGame h1 := by
  rcases I with q | ⟨w, w1, w2, w3⟩
  · exact Or.inl ((k 80 0 (by omega) (by omega)).trans q)
  · refine Or.inr ⟨w, w1, (k 80 0 (by omega) (by omega)).trans w2, ?_⟩
    obtain ⟨val, X1, X0, v1, v2, v3, v4⟩ := le_game O E w3
    refine ⟨val, X1, X0, v1, v2, v3, fun p hp => ?_⟩
    rw [k 82 p (by omega) (by omega), k 83 p (by omega) (by omega), k 84 p (by omega) (by omega), k 85 p (by omega) (by omega)]
    exact v4 p hp
theorem kPast {B : Int} {h h1 : Hp} (I : iPast B h) (O : LandOK (rowM h)) (E : LSame (rowM h) (rowM h1)) (kr : ∀ k, 70 ≤ k → k < 191 → gI h1 99 k = gI h 99 k) (k : ∀ o j, 24 ≤ o → o ≤ 45 → gI h1 o j = gI h o j) (kj : ∀ o j, 24 ≤ o → o ≤ 45 → gJ h1 o j = gJ h o j) : iPast B h1 := by
  obtain ⟨m, nx, p1, p2, p3, p4, p5, p6⟩ := I
  refine ⟨m, nx, p1, p2, by rw [kr 70 (by omega) (by omega)]; exact p3, by rw [k 24 2 (by omega) (by omega)]; exact p4, by rw [k 24 1 (by omega) (by omega)]; exact p5, fun i hi => ?_⟩
  have eS : ∀ j, j < 12 → segM h1 i j = segM h i j := fun j hj => kr _ (by omega) (by omega)
  obtain ⟨q1, q2⟩ := p6 i hi
  have := Nat.mod_lt (nx + 10 - m + i) (show 0 < 10 by decide)
  constructor
  · refine le_std O E ?_
    refine ⟨by rw [eS 0 (by omega)]; exact q1.1, by rw [eS 3 (by omega)]; exact q1.2.1, fun p hp => ?_, by rw [eS 1 (by omega)]; exact q1.2.2.2⟩
    rw [eS _ (by omega)]; exact q1.2.2.1 p hp
  · have := StdR_k q2 (h1 := h1) (fun x j hx => k x j (by omega) (by omega)) (kj _ 1 (by omega) (by omega))
    refine ⟨by rw [eS 0 (by omega)]; exact this.1, by rw [eS 1 (by omega)]; exact this.2.1, by rw [eS 2 (by omega)]; exact this.2.2.1, by rw [eS 3 (by omega)]; exact this.2.2.2.1, fun p hp => ?_⟩
    rw [eS _ (by omega)]; exact this.2.2.2.2 p hp
theorem kImg {B : Int} {h h1 : Hp} (I : iImg B h) (kr : ∀ k, 1092 ≤ k → gI h1 99 k = gI h 99 k) (k0 : gI h1 0 15 = gI h 0 15) (k1 : ∀ i, gI h1 100 i = gI h 100 i) (k : ∀ o j, 55 ≤ o → o ≤ 72 → gI h1 o j = gI h o j) (kj : ∀ o j, 55 ≤ o → o ≤ 72 → gJ h1 o j = gJ h o j) : iImg B h1 := by
  obtain ⟨⟨b, b1, b2, b3⟩, g2⟩ := I
  have eI : ∀ i, rowI h1 i = rowI h i := fun i => funext (fun j => kr _ (by
    have : 1092 * 1 ≤ 1092 * (i + 1) := Nat.mul_le_mul_left _ (by omega)
    omega))
  refine ⟨⟨b, b1, k0.trans b2, fun i hi => by rw [k1]; exact b3 i hi⟩, fun i hi hb => ?_⟩
  rw [k1] at hb
  have := g2 i hi hb
  rw [eI]
  exact ⟨⟨this.1.1, LndR_k this.1.2 (fun x j hx => k x j (by omega) (by omega))⟩, this.2.1, StdR_k this.2.2 (fun x j hx => k x j (by omega) (by omega)) (kj _ 1 (by omega) (by omega))⟩
theorem kTray {h h1 : Hp} (I : iTray h) (k4 : ∀ t, gI h1 124 t = gI h 124 t) (k5 : ∀ t, gI h1 125 t = gI h 125 t) (k6 : ∀ t, gJ h1 126 t = gJ h 126 t) (k : ∀ o j, 46 ≤ o → o ≤ 54 → gI h1 o j = gI h o j) (kj : ∀ o j, 46 ≤ o → o ≤ 54 → gJ h1 o j = gJ h o j) : iTray h1 := by
  intro t ht
  obtain ⟨⟨t1, t2, t3⟩, q, q1, q2, q3⟩ := I t ht
  rw [k4, k5, k (47 + 2 * t) 0 (by omega) (by omega), k (47 + 2 * t) 1 (by omega) (by omega)]
  refine ⟨⟨t1, t2, t3⟩, q, q1, q2, fun j hj => ?_⟩
  rw [k6, kj (48 + 2 * t) j (by omega) (by omega)]
  exact q3 j hj
theorem kTape {h h1 : Hp} (I : iTape h) (k0 : gI h1 0 1 = gI h 0 1) (k1 : ∀ j, gI h1 1 j = gI h 1 j) (k5 : gI h1 98 5 = gI h 98 5) (k101 : ∀ j, gI h1 101 j = gI h 101 j) : iTape h1 := by
  obtain ⟨q, q1, q2, q3, q4⟩ := I
  exact ⟨q, q1, k0.trans q2, k5.trans q3, fun j hj => by rw [k101, k1]; exact q4 j hj⟩
theorem kFlt {h h1 : Hp} (I : iFlt h) (k1 : gI h1 2 13 = gI h 2 13) (k2 : gI h1 2 14 = gI h 2 14) (k3 : gI h1 98 13 = gI h 98 13) (k4 : gI h1 98 14 = gI h 98 14) : iFlt h1 := ⟨by rw [k1, k3]; exact I.1, by rw [k2, k4]; exact I.2⟩
