/-! rows counted: sums, pure -/
theorem smN_ext {f g : Nat → Nat} : ∀ {n : Nat}, (∀ i, i < n → f i = g i) → smN f n = smN g n
  | 0, _ => rfl
  | n + 1, h => by
    show smN f n + f n = smN g n + g n
    rw [smN_ext (fun i hi => h i (by omega)), h n (by omega)]
theorem smN_one {f : Nat → Nat} : ∀ {n i0 : Nat}, i0 < n → (∀ i, i < n → i ≠ i0 → f i = 0) → smN f n = f i0
  | 0, _, h, _ => absurd h (by omega)
  | n + 1, i0, h, z => by
    show smN f n + f n = f i0
    by_cases e : i0 = n
    · subst e
      rw [smN_z (fun i hi => z i (by omega) (by omega))]; omega
    · rw [smN_one (n := n) (i0 := i0) (by omega) (fun i hi hn => z i (by omega) hn), z n (by omega) (by omega)]; rfl
theorem smN_add2 (f g : Nat → Nat) : ∀ n, smN (fun i => f i + g i) n = smN f n + smN g n
  | 0 => rfl
  | n + 1 => by
    show smN (fun i => f i + g i) n + (f n + g n) = smN f n + f n + (smN g n + g n)
    rw [smN_add2 f g n]; omega
theorem smN_comm (f : Nat → Nat → Nat) (m : Nat) : ∀ n, smN (fun i => smN (fun j => f i j) m) n = smN (fun j => smN (fun i => f i j) n) m
  | 0 => (smN_z (fun _ _ => rfl)).symm
  | n + 1 => by
    show smN (fun i => smN (fun j => f i j) m) n + smN (fun j => f n j) m = smN (fun j => smN (fun i => f i j) n + f n j) m
    rw [smN_comm f m n, smN_add2]
theorem smN_app (f : Nat → Nat) (n : Nat) : ∀ m, smN f (n + m) = smN f n + smN (fun t => f (n + t)) m
  | 0 => rfl
  | m + 1 => by
    show smN f (n + m) + f (n + m) = smN f n + (smN (fun t => f (n + t)) m + f (n + m))
    rw [smN_app f n m]; omega
theorem smN_spl (f : Nat → Nat) (b : Nat) : ∀ a, smN f (b * a) = smN (fun p => smN (fun t => f (b * p + t)) b) a
  | 0 => rfl
  | a + 1 => by
    show smN f (b * a + b) = smN (fun p => smN (fun t => f (b * p + t)) b) a + smN (fun t => f (b * a + t)) b
    rw [smN_app, smN_spl f b a]
theorem cC_bd (a : Row) (w t : Nat) : ∀ n q s, cC a w t n q s ≤ 17 ^ n
  | 0, q, s => by
    show (if q = t ∧ s = 0 then 1 else 0) ≤ 1
    split <;> omega
  | n + 1, q, s => by
    have ih := cC_bd a w t n
    have l1 : lyC a w q ≤ 1 := by unfold lyC; split <;> omega
    have l2 : lyC a w q * cC a w t n q s ≤ 1 * 17 ^ n := Nat.mul_le_mul l1 (ih q s)
    have l3 : smN (fun r => if (bset (opnA a w) (nR a)).testBit r = true ∧ toA a r = q then cC a w t n (fromA a r) (s - (payA a w r).toInt) else 0) 16 ≤ 16 * 17 ^ n := smN_le (fun r _ => by
      split
      · exact ih _ _
      · omega)
    show lyC a w q * cC a w t n q s + smN (fun r => if (bset (opnA a w) (nR a)).testBit r = true ∧ toA a r = q then cC a w t n (fromA a r) (s - (payA a w r).toInt) else 0) 16 ≤ 17 ^ (n + 1)
    rw [Nat.pow_succ]; omega
theorem cC_sup (a : Row) (w t : Nat) : ∀ (n q : Nat) (s : Int), (s < -99 * (n : Int) ∨ 99 * (n : Int) < s) → cC a w t n q s = 0
  | 0, q, s, h => by
    show (if q = t ∧ s = 0 then 1 else 0) = 0
    rw [if_neg (by omega)]
  | n + 1, q, s, h => by
    have ih := cC_sup a w t n
    show lyC a w q * cC a w t n q s + smN (fun r => if (bset (opnA a w) (nR a)).testBit r = true ∧ toA a r = q then cC a w t n (fromA a r) (s - (payA a w r).toInt) else 0) 16 = 0
    rw [ih q s (by omega), smN_z (f := fun r => if (bset (opnA a w) (nR a)).testBit r = true ∧ toA a r = q then cC a w t n (fromA a r) (s - (payA a w r).toInt) else 0) (fun r _ => by
      have := payA_bd a w r
      split
      · exact ih _ _ (by omega)
      · rfl)]
    rfl
theorem cC_z {a : Row} (O : LandOK a) {w t : Nat} (ht : t < nP a) : ∀ n q s, nP a ≤ q → cC a w t n q s = 0
  | 0, q, s, h => by
    show (if q = t ∧ s = 0 then 1 else 0) = 0
    rw [if_neg (by omega)]
  | n + 1, q, s, h => by
    have ih := cC_z O (w := w) ht n
    show lyC a w q * cC a w t n q s + smN (fun r => if (bset (opnA a w) (nR a)).testBit r = true ∧ toA a r = q then cC a w t n (fromA a r) (s - (payA a w r).toInt) else 0) 16 = 0
    rw [ih q s h, smN_z (f := fun r => if (bset (opnA a w) (nR a)).testBit r = true ∧ toA a r = q then cC a w t n (fromA a r) (s - (payA a w r).toInt) else 0) (fun r _ => by
      by_cases e : (bset (opnA a w) (nR a)).testBit r = true ∧ toA a r = q
      · have := (O.2.2.1 r (opn_tb.mp e.1).1).2.2
        omega
      · exact if_neg e)]
    rfl
theorem scat_one {c : Nat → Int → Nat} {p0 T q u : Nat} {C : Prop} [Decidable C] {pay : Int} {b : Nat → Bool} (hp0 : p0 < 8) (hu : u < 1189) (hpay : -99 ≤ pay ∧ pay ≤ 99) (hb : ∀ p, p < 8 → (b p = true ↔ C ∧ p = p0)) (sup : ∀ p s, (s < -495 ∨ 495 < s) → c p s = 0) : smN (fun p => smN (fun t => if b p = true ∧ ((1189 * T + t : Nat) : Int) + pay = ((1189 * q + u : Nat) : Int) then c p ((t : Int) - 594) else 0) 1189) 8 = if C ∧ T = q then c p0 ((u : Int) - 594 - pay) else 0 := by
  by_cases hC : C
  · rw [smN_one (f := fun p => smN (fun t => if b p = true ∧ ((1189 * T + t : Nat) : Int) + pay = ((1189 * q + u : Nat) : Int) then c p ((t : Int) - 594) else 0) 1189) hp0 (fun p hp hn => smN_z (fun t _ => if_neg (fun z => hn ((hb p hp).mp z.1).2)))]
    have b0 : b p0 = true := (hb p0 hp0).mpr ⟨hC, rfl⟩
    by_cases e : T = q
    · subst e
      rw [if_pos ⟨hC, rfl⟩]
      by_cases r : 0 ≤ (u : Int) - pay ∧ (u : Int) - pay < 1189
      · obtain ⟨t0, ht0⟩ : ∃ t0 : Nat, (t0 : Int) = u - pay := ⟨((u : Int) - pay).toNat, by omega⟩
        rw [smN_one (i0 := t0) (by omega) (fun t ht hn => if_neg (fun z => hn (by have := z.2; omega))), if_pos ⟨b0, by omega⟩, show (t0 : Int) - 594 = u - 594 - pay by omega]
      · rw [sup p0 _ (by omega)]
        exact smN_z (fun t ht => if_neg (fun z => r (by have := z.2; omega)))
    · rw [if_neg (fun z => e z.2)]
      refine smN_z (fun t ht => ?_)
      by_cases z : ((1189 * T + t : Nat) : Int) + pay = ((1189 * q + u : Nat) : Int)
      · rw [if_pos ⟨b0, z⟩]
        refine sup p0 _ ?_
        rcases Nat.lt_or_gt_of_ne e with l | l
        · have : T + 1 ≤ q := l
          omega
        · have : q + 1 ≤ T := l
          omega
      · exact if_neg (fun y => z y.2)
  · rw [if_neg (fun z => hC z.1)]
    exact smN_z (fun p hp => smN_z (fun t _ => if_neg (fun z => hC ((hb p hp).mp z.1).1)))
def ctW (a : Row) (w : Nat) (c : Nat → Int → Nat) (k e j : Nat) : Nat := if (wys a w (k / 1189)).testBit e = true ∧ ((1189 * ttA a e + k % 1189 : Nat) : Int) + pIA a w e = (j : Int) then c (k / 1189) (((k % 1189 : Nat) : Int) - 594) else 0
theorem scat {a : Row} (O : LandOK a) {w : Nat} {c : Nat → Int → Nat} (sup : ∀ p s, (s < -495 ∨ 495 < s) → c p s = 0) {q u : Nat} (hq : q < 8) (hu : u < 1189) : smN (fun k => smN (fun e => ctW a w c k e (1189 * q + u)) 24) 9512 = stepT a w (bset (opnA a w) (nR a)) (lyC a w) c q ((u : Int) - 594) := by
  have h16 := O.2.1.1
  have h8 := O.1.2.1
  rw [smN_comm (fun k e => ctW a w c k e (1189 * q + u)) 24 9512]
  have one : ∀ e p0 (C : Prop) [Decidable C], p0 < 8 → (∀ p, p < 8 → ((wys a w p).testBit e = true ↔ C ∧ p = p0)) → smN (fun k => ctW a w c k e (1189 * q + u)) 9512 = if C ∧ ttA a e = q then c p0 ((u : Int) - 594 - pIA a w e) else 0 := by
    intro e p0 C _ hp0 hb
    rw [show 9512 = 1189 * 8 from rfl, smN_spl, ← scat_one (T := ttA a e) (q := q) (b := fun p => (wys a w p).testBit e) (pay := pIA a w e) hp0 hu (ppA_bd a w e) hb sup]
    refine smN_ext (fun p hp => smN_ext (fun t ht => ?_))
    unfold ctW
    rw [show (1189 * p + t) / 1189 = p by omega, show (1189 * p + t) % 1189 = t by omega]
  rw [show 24 = 16 + 8 from rfl, smN_app]
  unfold stepT
  rw [Nat.add_comm]
  congr 1
  · -- staying
    rw [smN_one (f := fun t => smN (fun k => ctW a w c k (16 + t) (1189 * q + u)) 9512) hq (fun p0 hp0 hn => ?_)]
    · rw [one (16 + q) q (obs a w q = 0) hq (fun p hp => ?_)]
      · have e1 : ttA a (16 + q) = q := by unfold ttA; rw [if_neg (by omega)]; omega
        have e2 : pIA a w (16 + q) = 0 := by unfold pIA ppA; rw [if_neg (by omega)]; rfl
        rw [e1, e2, Int.sub_zero]
        unfold lyC
        by_cases z : obs a w q = 0
        · rw [if_pos ⟨z, rfl⟩, if_pos z, Nat.one_mul]
        · rw [if_neg (fun y => z y.1), if_neg z, Nat.zero_mul]
      · rw [wys_tb O]
        constructor
        · rintro (⟨h, _⟩ | ⟨h1, h2⟩)
          · omega
          · have : p = q := by omega
            subst this; exact ⟨h1, rfl⟩
        · rintro ⟨h1, rfl⟩; exact Or.inr ⟨h1, rfl⟩
    · rw [one (16 + p0) p0 (obs a w p0 = 0) hp0 (fun p hp => ?_)]
      · have e1 : ttA a (16 + p0) = p0 := by unfold ttA; rw [if_neg (by omega)]; omega
        rw [e1, if_neg (fun y => hn y.2)]
      · rw [wys_tb O]
        constructor
        · rintro (⟨h, _⟩ | ⟨h1, h2⟩)
          · omega
          · have : p = p0 := by omega
            subst this; exact ⟨h1, rfl⟩
        · rintro ⟨h1, rfl⟩; exact Or.inr ⟨h1, rfl⟩
  · -- roads
    refine smN_ext (fun r hr => ?_)
    have e1 : ttA a r = toA a r := if_pos hr
    have e2 : pIA a w r = (payA a w r).toInt := by unfold pIA ppA; rw [if_pos hr]
    by_cases ho : (bset (opnA a w) (nR a)).testBit r = true
    · have hn := opn_tb.mp ho
      have fl := (O.2.2.1 r hn.1).1.2
      rw [one r (fromA a r) ((bset (opnA a w) (nR a)).testBit r = true) (by omega) (fun p hp => ?_), e1, e2]
      rw [wys_tb O]
      constructor
      · rintro (⟨_, _, h1, _⟩ | ⟨_, h2⟩)
        · exact ⟨ho, h1.symm⟩
        · omega
      · rintro ⟨_, rfl⟩; exact Or.inl ⟨hr, hn.1, rfl, hn.2⟩
    · rw [one r 0 False (by omega) (fun p hp => ?_), if_neg (fun y => y.1), if_neg (fun y => ho y.1)]
      rw [wys_tb O]
      constructor
      · rintro (⟨_, h0, h1, h2⟩ | ⟨_, h2⟩)
        · exact absurd (opn_tb.mpr ⟨h0, h2⟩) ho
        · omega
      · rintro ⟨h, _⟩; exact h.elim
