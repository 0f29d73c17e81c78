/-! lots: sums of whole numbers -/
def smZ (f : Nat → Int) : Nat → Int
  | 0 => 0
  | n + 1 => smZ f n + f n
theorem smZ_ext {f g : Nat → Int} : ∀ {n : Nat}, (∀ i, i < n → f i = g i) → smZ f n = smZ g n
  | 0, _ => rfl
  | n + 1, h => by
    show smZ f n + f n = smZ g n + g n
    rw [smZ_ext (fun i hi => h i (by omega)), h n (by omega)]
theorem smZ_z {f : Nat → Int} : ∀ {n : Nat}, (∀ i, i < n → f i = 0) → smZ f n = 0
  | 0, _ => rfl
  | n + 1, h => by
    show smZ f n + f n = 0
    rw [smZ_z (fun i hi => h i (by omega)), h n (by omega)]; rfl
theorem smZ_add (f g : Nat → Int) : ∀ n, smZ (fun i => f i + g i) n = smZ f n + smZ g n
  | 0 => rfl
  | n + 1 => by
    show smZ (fun i => f i + g i) n + (f n + g n) = smZ f n + f n + (smZ g n + g n)
    rw [smZ_add f g n]; omega
theorem smZ_mul (c : Int) (f : Nat → Int) : ∀ n, smZ (fun i => c * f i) n = c * smZ f n
  | 0 => (Int.mul_zero c).symm
  | n + 1 => by
    show smZ (fun i => c * f i) n + c * f n = c * (smZ f n + f n)
    rw [smZ_mul c f n, Int.mul_add]
theorem smZ_comm (f : Nat → Nat → Int) (m : Nat) : ∀ n, smZ (fun i => smZ (fun j => f i j) m) n = smZ (fun j => smZ (fun i => f i j) n) m
  | 0 => (smZ_z (fun _ _ => rfl)).symm
  | n + 1 => by
    show smZ (fun i => smZ (fun j => f i j) m) n + smZ (fun j => f n j) m = smZ (fun j => smZ (fun i => f i j) n + f n j) m
    rw [smZ_comm f m n, smZ_add]
theorem smZ_app (f : Nat → Int) (n : Nat) : ∀ m, smZ f (n + m) = smZ f n + smZ (fun t => f (n + t)) m
  | 0 => (Int.add_zero _).symm
  | m + 1 => by
    show smZ f (n + m) + f (n + m) = smZ f n + (smZ (fun t => f (n + t)) m + f (n + m))
    rw [smZ_app f n m]; omega
theorem smZ_one {f : Nat → Int} : ∀ {n i0 : Nat}, i0 < n → (∀ i, i < n → i ≠ i0 → f i = 0) → smZ f n = f i0
  | 0, _, h, _ => absurd h (by omega)
  | n + 1, i0, h, z => by
    show smZ f n + f n = f i0
    by_cases e : i0 = n
    · subst e
      rw [smZ_z (fun i hi => z i (by omega) (by omega))]; omega
    · rw [smZ_one (n := n) (i0 := i0) (by omega) (fun i hi hn => z i (by omega) hn), z n (by omega) (by omega)]; omega
theorem smZ_N (f : Nat → Nat) : ∀ n, smZ (fun i => (f i : Int)) n = (smN f n : Int)
  | 0 => rfl
  | n + 1 => by
    show smZ (fun i => (f i : Int)) n + (f n : Int) = ((smN f n + f n : Nat) : Int)
    rw [smZ_N f n]; omega
theorem smZ_abs {f : Nat → Int} {g : Nat → Int} : ∀ {n : Nat}, (∀ i, i < n → -(g i) ≤ f i ∧ f i ≤ g i) → -(smZ g n) ≤ smZ f n ∧ smZ f n ≤ smZ g n
  | 0, _ => by show -(0 : Int) ≤ 0 ∧ (0 : Int) ≤ 0; omega
  | n + 1, h => by
    have a := smZ_abs (f := f) (g := g) (n := n) (fun i hi => h i (by omega))
    have b := h n (by omega)
    show -(smZ g n + g n) ≤ smZ f n + f n ∧ smZ f n + f n ≤ smZ g n + g n
    omega
theorem winZ {g : Int → Int} (lo : Int) (m : Nat) (h : -2000 ≤ lo ∧ lo + m ≤ 2000) (z : ∀ s, (s < lo ∨ lo + m ≤ s) → g s = 0) : smZ (fun i => g (-2000 + (i : Int))) 4000 = smZ (fun i => g (lo + (i : Int))) m := by
  obtain ⟨d, hd⟩ : ∃ d : Nat, (d : Int) = lo + 2000 := ⟨(lo + 2000).toNat, by omega⟩
  obtain ⟨r, hr⟩ : ∃ r : Nat, 4000 = d + (m + r) := ⟨4000 - d - m, by omega⟩
  rw [show smZ (fun i => g (-2000 + (i : Int))) 4000 = smZ (fun i => g (-2000 + (i : Int))) (d + (m + r)) by rw [← hr], smZ_app, smZ_z (f := fun i => g (-2000 + (i : Int))) (n := d) (fun i hi => z _ (by omega)), smZ_app, smZ_z (f := fun t => g (-2000 + ((d + (m + t) : Nat) : Int))) (n := r) (fun i hi => z _ (by omega))]
  rw [Int.zero_add, Int.add_zero]
  exact smZ_ext (fun i hi => by rw [show -2000 + ((d + i : Nat) : Int) = lo + (i : Int) by omega])
/-- what is drawn, one step back -/
def tL (a : Row) (w : Nat) (f : Nat → Int → Int) (p : Nat) (s : Int) : Int := (lyL a w p : Int) * f p s + smZ (fun r => if (drN (obs a w p)).testBit r = true then f (toA a r) (s + (payA a w r).toInt) else 0) 16
def IT (a : Row) (w : Nat) (f : Nat → Int → Int) : Nat → Nat → Int → Int
  | 0 => f
  | n + 1 => tL a w (IT a w f n)
theorem IT_in (a : Row) (w : Nat) (f : Nat → Int → Int) : ∀ n, IT a w (tL a w f) n = IT a w f (n + 1)
  | 0 => rfl
  | n + 1 => by
    show tL a w (IT a w (tL a w f) n) = tL a w (IT a w f (n + 1))
    rw [IT_in a w f n]
theorem IT_sh (a : Row) (w : Nat) (f : Int → Int) (m : Int) : ∀ n p s, IT a w (fun _ s => f (m + s)) n p s = IT a w (fun _ s => f s) n p (m + s)
  | 0, _, _ => rfl
  | n + 1, p, s => by
    have ih := IT_sh a w f m n
    show (lyL a w p : Int) * IT a w (fun _ s => f (m + s)) n p s + smZ (fun r => if (drN (obs a w p)).testBit r = true then IT a w (fun _ s => f (m + s)) n (toA a r) (s + (payA a w r).toInt) else 0) 16 = (lyL a w p : Int) * IT a w (fun _ s => f s) n p (m + s) + smZ (fun r => if (drN (obs a w p)).testBit r = true then IT a w (fun _ s => f s) n (toA a r) (m + s + (payA a w r).toInt) else 0) 16
    rw [ih]
    congr 1
    refine smZ_ext (fun r _ => ?_)
    rw [ih, Int.add_assoc]
theorem IT_add (a : Row) (w : Nat) (f g : Nat → Int → Int) : ∀ n p s, IT a w (fun p s => f p s + g p s) n p s = IT a w f n p s + IT a w g n p s
  | 0, _, _ => rfl
  | n + 1, p, s => by
    have ih := IT_add a w f g n
    show (lyL a w p : Int) * IT a w (fun p s => f p s + g p s) n p s + smZ (fun r => if (drN (obs a w p)).testBit r = true then IT a w (fun p s => f p s + g p s) n (toA a r) (s + (payA a w r).toInt) else 0) 16 = ((lyL a w p : Int) * IT a w f n p s + smZ (fun r => if (drN (obs a w p)).testBit r = true then IT a w f n (toA a r) (s + (payA a w r).toInt) else 0) 16) + ((lyL a w p : Int) * IT a w g n p s + smZ (fun r => if (drN (obs a w p)).testBit r = true then IT a w g n (toA a r) (s + (payA a w r).toInt) else 0) 16)
    rw [ih, Int.mul_add]
    have e : smZ (fun r => if (drN (obs a w p)).testBit r = true then IT a w (fun p s => f p s + g p s) n (toA a r) (s + (payA a w r).toInt) else 0) 16 = smZ (fun r => if (drN (obs a w p)).testBit r = true then IT a w f n (toA a r) (s + (payA a w r).toInt) else 0) 16 + smZ (fun r => if (drN (obs a w p)).testBit r = true then IT a w g n (toA a r) (s + (payA a w r).toInt) else 0) 16 := by
      rw [← smZ_add]
      refine smZ_ext (fun r _ => ?_)
      split
      · exact ih _ _
      · rfl
    rw [e]; omega
/-- ten are drawn -/
theorem dr_cnt (n : Nat) : ∀ k, k ≤ 16 → smZ (fun r => if (drN n).testBit r = true then (1 : Int) else 0) k = (popc k (drN n) : Int)
  | 0, _ => rfl
  | k + 1, h => by
    show smZ (fun r => if (drN n).testBit r = true then (1 : Int) else 0) k + (if (drN n).testBit k = true then (1 : Int) else 0) = _
    rw [dr_cnt n k (by omega), popc_s]
    split <;> omega
theorem ly_10 (a : Row) (w p : Nat) : (lyL a w p : Int) + smZ (fun r => if (drN (obs a w p)).testBit r = true then (1 : Int) else 0) 16 = 10 := by
  rw [dr_cnt _ 16 (Nat.le_refl _)]
  have dp : popc 16 (drN (obs a w p)) ≤ 10 := by rw [popc_dr (Nat.le_refl 16)]; omega
  unfold lyL
  omega
theorem pw_s (n : Nat) : ((10 ^ (n + 1) : Nat) : Int) = 10 * ((10 ^ n : Nat) : Int) := by
  rw [Nat.pow_succ]; omega
theorem IT_c (a : Row) (w : Nat) (m : Int) : ∀ n p s, IT a w (fun _ _ => m) n p s = m * ((10 ^ n : Nat) : Int)
  | 0, _, _ => by show m = m * 1; omega
  | n + 1, p, s => by
    have ih := IT_c a w m n
    show (lyL a w p : Int) * IT a w (fun _ _ => m) n p s + smZ (fun r => if (drN (obs a w p)).testBit r = true then IT a w (fun _ _ => m) n (toA a r) (s + (payA a w r).toInt) else 0) 16 = _
    rw [ih, show smZ (fun r => if (drN (obs a w p)).testBit r = true then IT a w (fun _ _ => m) n (toA a r) (s + (payA a w r).toInt) else 0) 16 = m * ((10 ^ n : Nat) : Int) * smZ (fun r => if (drN (obs a w p)).testBit r = true then (1 : Int) else 0) 16 by
      rw [← smZ_mul]
      refine smZ_ext (fun r _ => ?_)
      rw [ih]
      split
      · rw [Int.mul_one]
      · rw [Int.mul_zero]]
    rw [Int.mul_comm (lyL a w p : Int), ← Int.mul_add, ly_10, pw_s, Int.mul_assoc, Int.mul_comm _ (10 : Int)]
theorem IT_bd {a : Row} {w : Nat} {f : Int → Int} (hf : ∀ s : Int, ((f s).natAbs : Int) ≤ (s.natAbs : Int) + 1) : ∀ (n p : Nat) (s A : Int), (s.natAbs : Int) + 1 + 99 * n ≤ A → -(A * ((10 ^ n : Nat) : Int)) ≤ IT a w (fun _ s => f s) n p s ∧ IT a w (fun _ s => f s) n p s ≤ A * ((10 ^ n : Nat) : Int)
  | 0, p, s, A, hA => by
    have := hf s
    show -(A * 1) ≤ f s ∧ f s ≤ A * 1
    omega
  | n + 1, p, s, A, hA => by
    have ih := IT_bd (a := a) (w := w) hf n
    have i1 := ih p s A (by omega)
    generalize hX : A * ((10 ^ n : Nat) : Int) = X at i1
    have l := ly_10 a w p
    have i2 := smZ_abs (f := fun r => if (drN (obs a w p)).testBit r = true then IT a w (fun _ s => f s) n (toA a r) (s + (payA a w r).toInt) else 0) (g := fun r => X * (if (drN (obs a w p)).testBit r = true then (1 : Int) else 0)) (n := 16) (fun r _ => by
      have pb := payA_bd a w r
      have := ih (toA a r) (s + (payA a w r).toInt) A (by omega)
      rw [hX] at this
      show -(X * (if (drN (obs a w p)).testBit r = true then (1 : Int) else 0)) ≤ (if (drN (obs a w p)).testBit r = true then IT a w (fun _ s => f s) n (toA a r) (s + (payA a w r).toInt) else 0) ∧ (if (drN (obs a w p)).testBit r = true then IT a w (fun _ s => f s) n (toA a r) (s + (payA a w r).toInt) else 0) ≤ X * (if (drN (obs a w p)).testBit r = true then (1 : Int) else 0)
      split
      · rw [Int.mul_one]; exact this
      · rw [Int.mul_zero]; omega)
    rw [smZ_mul] at i2
    have eX : A * ((10 ^ (n + 1) : Nat) : Int) = X * (lyL a w p : Int) + X * smZ (fun r => if (drN (obs a w p)).testBit r = true then (1 : Int) else 0) 16 := by
      rw [← Int.mul_add, l, pw_s, ← hX, Int.mul_left_comm, Int.mul_comm (10 : Int)]
    have i3 : -(X * (lyL a w p : Int)) ≤ (lyL a w p : Int) * IT a w (fun _ s => f s) n p s ∧ (lyL a w p : Int) * IT a w (fun _ s => f s) n p s ≤ X * (lyL a w p : Int) := by
      have z : (0 : Int) ≤ (lyL a w p : Int) := by omega
      have u := Int.mul_le_mul_of_nonneg_left i1.2 z
      have v := Int.mul_le_mul_of_nonneg_left i1.1 z
      rw [Int.mul_neg] at v
      rw [Int.mul_comm X]
      exact ⟨v, u⟩
    show -(A * ((10 ^ (n + 1) : Nat) : Int)) ≤ (lyL a w p : Int) * IT a w (fun _ s => f s) n p s + smZ (fun r => if (drN (obs a w p)).testBit r = true then IT a w (fun _ s => f s) n (toA a r) (s + (payA a w r).toInt) else 0) 16 ∧ (lyL a w p : Int) * IT a w (fun _ s => f s) n p s + smZ (fun r => if (drN (obs a w p)).testBit r = true then IT a w (fun _ s => f s) n (toA a r) (s + (payA a w r).toInt) else 0) 16 ≤ A * ((10 ^ (n + 1) : Nat) : Int)
    rw [eX]
    omega
/-! the table against what is drawn -/
def ipr (c : Nat → Int → Nat) (f : Nat → Int → Int) : Int := smZ (fun p => smZ (fun i => (c p (-2000 + (i : Int)) : Int) * f p (-2000 + (i : Int))) 4000) 8
theorem cL_bd (a : Row) (w t : Nat) : ∀ n q s, cL a w t n q s ≤ 26 ^ n
  | 0, q, s => cC_bd a w t 0 q s
  | n + 1, q, s => by
    have ih := cL_bd a w t n
    have l1 : lyL a w q ≤ 10 := Nat.sub_le _ _
    have l2 : lyL a w q * cL a w t n q s ≤ 10 * 26 ^ n := Nat.mul_le_mul l1 (ih q s)
    have l3 : smN (fun r => if (RLo a w 8).testBit r = true ∧ toA a r = q then cL a w t n (fromA a r) (s - (payA a w r).toInt) else 0) 16 ≤ 16 * 26 ^ n := smN_le (fun r _ => by
      split
      · exact ih _ _
      · omega)
    show lyL a w q * cL a w t n q s + smN (fun r => if (RLo a w 8).testBit r = true ∧ toA a r = q then cL a w t n (fromA a r) (s - (payA a w r).toInt) else 0) 16 ≤ 26 ^ (n + 1)
    rw [Nat.pow_succ]; omega
theorem cL_sup (a : Row) (w t : Nat) : ∀ (n q : Nat) (s : Int), (s < -99 * (n : Int) ∨ 99 * (n : Int) < s) → cL a w t n q s = 0
  | 0, q, s, h => cC_sup a w t 0 q s h
  | n + 1, q, s, h => by
    have ih := cL_sup a w t n
    show lyL a w q * cL a w t n q s + smN (fun r => if (RLo a w 8).testBit r = true ∧ toA a r = q then cL a w t n (fromA a r) (s - (payA a w r).toInt) else 0) 16 = 0
    rw [ih q s (by omega), smN_z (f := fun r => if (RLo a w 8).testBit r = true ∧ toA a r = q then cL a w t n (fromA a r) (s - (payA a w r).toInt) else 0) (fun r _ => by
      have := payA_bd a w r
      split
      · exact ih _ _ (by omega)
      · rfl)]
    rfl
theorem ipr_s {a : Row} {w : Nat} (O : LandOK a) {c : Nat → Int → Nat} (sup : ∀ p s, (s < -1500 ∨ 1500 < s) → c p s = 0) (f : Nat → Int → Int) : ipr (stepT a w (RLo a w 8) (lyL a w) c) f = ipr c (tL a w f) := by
  have h8 := O.1.2.1
  -- the roads, one by one
  have road : ∀ r, smZ (fun q => smZ (fun i => ((if (RLo a w 8).testBit r = true ∧ toA a r = q then c (fromA a r) (-2000 + (i : Int) - (payA a w r).toInt) else 0 : Nat) : Int) * f q (-2000 + (i : Int))) 4000) 8 = smZ (fun p => smZ (fun i => (c p (-2000 + (i : Int)) : Int) * (if (drN (obs a w p)).testBit r = true then f (toA a r) (-2000 + (i : Int) + (payA a w r).toInt) else 0)) 4000) 8 := by
    intro r
    by_cases hr : (RLo a w 8).testBit r = true
    · obtain ⟨r1, r2, r3⟩ := RLo_tb.mp hr
      have t8 := (O.2.2.1 r r1).2.2
      have pb := payA_bd a w r
      rw [smZ_one (i0 := toA a r) (by omega) (fun q _ hn => smZ_z (fun i _ => by rw [if_neg (fun e => hn e.2.symm)]; exact Int.zero_mul _)), smZ_one (i0 := fromA a r) r2 (fun p _ hn => smZ_z (fun i _ => by rw [if_neg (fun e => hn (dr_ob e).2.1.symm)]; exact Int.mul_zero _))]
      have e1 := winZ (g := fun s => (c (fromA a r) (s - (payA a w r).toInt) : Int) * f (toA a r) s) (-1600 + (payA a w r).toInt) 3200 ⟨by omega, by omega⟩ (fun s hs => by
        show (c (fromA a r) (s - (payA a w r).toInt) : Int) * f (toA a r) s = 0
        rw [sup _ _ (by omega)]; exact Int.zero_mul _)
      have e2 := winZ (g := fun s => (c (fromA a r) s : Int) * f (toA a r) (s + (payA a w r).toInt)) (-1600) 3200 ⟨by omega, by omega⟩ (fun s hs => by
        show (c (fromA a r) s : Int) * f (toA a r) (s + (payA a w r).toInt) = 0
        rw [sup _ _ (by omega)]; exact Int.zero_mul _)
      refine Eq.trans (smZ_ext (fun i _ => by rw [if_pos ⟨hr, rfl⟩])) (Eq.trans e1 (Eq.trans (smZ_ext (fun i _ => ?_)) (Eq.trans e2.symm (smZ_ext (fun i _ => by rw [if_pos r3])))))
      rw [show -1600 + (payA a w r).toInt + (i : Int) - (payA a w r).toInt = -1600 + (i : Int) by omega, show -1600 + (payA a w r).toInt + (i : Int) = -1600 + (i : Int) + (payA a w r).toInt by omega]
    · rw [smZ_z (fun q _ => smZ_z (fun i _ => by rw [if_neg (fun e => hr e.1)]; exact Int.zero_mul _)), smZ_z (fun p hp => smZ_z (fun i _ => by rw [if_neg (fun e => hr (RLo_tb.mpr ⟨(dr_ob e).1, by rw [(dr_ob e).2.1]; exact hp, by rw [(dr_ob e).2.1]; exact e⟩))]; exact Int.mul_zero _))]
  have lhs : ipr (stepT a w (RLo a w 8) (lyL a w) c) f = smZ (fun q => smZ (fun i => (lyL a w q : Int) * (c q (-2000 + (i : Int)) : Int) * f q (-2000 + (i : Int))) 4000) 8 + smZ (fun r => smZ (fun q => smZ (fun i => ((if (RLo a w 8).testBit r = true ∧ toA a r = q then c (fromA a r) (-2000 + (i : Int) - (payA a w r).toInt) else 0 : Nat) : Int) * f q (-2000 + (i : Int))) 4000) 8) 16 := by
    rw [smZ_comm (fun r q => smZ (fun i => ((if (RLo a w 8).testBit r = true ∧ toA a r = q then c (fromA a r) (-2000 + (i : Int) - (payA a w r).toInt) else 0 : Nat) : Int) * f q (-2000 + (i : Int))) 4000) 8 16, ← smZ_add]
    refine smZ_ext (fun q _ => ?_)
    rw [smZ_comm (fun r i => ((if (RLo a w 8).testBit r = true ∧ toA a r = q then c (fromA a r) (-2000 + (i : Int) - (payA a w r).toInt) else 0 : Nat) : Int) * f q (-2000 + (i : Int))) 4000 16, ← smZ_add]
    refine smZ_ext (fun i _ => ?_)
    have e := smZ_mul (f q (-2000 + (i : Int))) (fun r => ((if (RLo a w 8).testBit r = true ∧ toA a r = q then c (fromA a r) (-2000 + (i : Int) - (payA a w r).toInt) else 0 : Nat) : Int)) 16
    rw [smZ_N] at e
    rw [show smZ (fun r => ((if (RLo a w 8).testBit r = true ∧ toA a r = q then c (fromA a r) (-2000 + (i : Int) - (payA a w r).toInt) else 0 : Nat) : Int) * f q (-2000 + (i : Int))) 16 = smZ (fun r => f q (-2000 + (i : Int)) * ((if (RLo a w 8).testBit r = true ∧ toA a r = q then c (fromA a r) (-2000 + (i : Int) - (payA a w r).toInt) else 0 : Nat) : Int)) 16 from smZ_ext (fun r _ => Int.mul_comm _ _), e]
    unfold stepT
    rw [Int.natCast_add, Int.add_mul, Int.natCast_mul, Int.mul_comm (f q (-2000 + (i : Int)))]
  have rhs : ipr c (tL a w f) = smZ (fun q => smZ (fun i => (lyL a w q : Int) * (c q (-2000 + (i : Int)) : Int) * f q (-2000 + (i : Int))) 4000) 8 + smZ (fun r => smZ (fun p => smZ (fun i => (c p (-2000 + (i : Int)) : Int) * (if (drN (obs a w p)).testBit r = true then f (toA a r) (-2000 + (i : Int) + (payA a w r).toInt) else 0)) 4000) 8) 16 := by
    rw [smZ_comm (fun r p => smZ (fun i => (c p (-2000 + (i : Int)) : Int) * (if (drN (obs a w p)).testBit r = true then f (toA a r) (-2000 + (i : Int) + (payA a w r).toInt) else 0)) 4000) 8 16, ← smZ_add]
    refine smZ_ext (fun q _ => ?_)
    rw [smZ_comm (fun r i => (c q (-2000 + (i : Int)) : Int) * (if (drN (obs a w q)).testBit r = true then f (toA a r) (-2000 + (i : Int) + (payA a w r).toInt) else 0)) 4000 16, ← smZ_add]
    refine smZ_ext (fun i _ => ?_)
    rw [smZ_mul]
    unfold tL
    rw [Int.mul_add, ← Int.mul_assoc, Int.mul_comm (c q (-2000 + (i : Int)) : Int) (lyL a w q : Int)]
  rw [lhs, rhs]
  exact congrArg (HAdd.hAdd _) (smZ_ext (fun r _ => road r))
theorem ipr_n {a : Row} {w t : Nat} (O : LandOK a) (ht : t < 8) : ∀ (n : Nat), n ≤ 5 → ∀ f, ipr (cL a w t n) f = IT a w f n t 0
  | 0, _, f => by
    show smZ (fun p => smZ (fun i => ((if p = t ∧ -2000 + (i : Int) = 0 then 1 else 0 : Nat) : Int) * f p (-2000 + (i : Int))) 4000) 8 = f t 0
    rw [smZ_one (i0 := t) ht (fun p _ hn => smZ_z (fun i _ => by rw [if_neg (fun e => hn e.1)]; exact Int.zero_mul _)), smZ_one (i0 := 2000) (by omega) (fun i _ hn => by rw [if_neg (fun e => hn (by omega))]; exact Int.zero_mul _), if_pos ⟨rfl, by omega⟩]
    exact Int.one_mul _
  | n + 1, hn, f => by
    rw [← IT_in, ← ipr_n O ht n (by omega) (tL a w f)]
    exact ipr_s O (fun p s hs => cL_sup a w t n p s (by omega)) f
/-- the table's sums, from the least on -/
theorem ipr_w {c : Nat → Int → Nat} (f : Int → Int) (l : Int) (s : Nat) (h : -2000 ≤ l ∧ l + s ≤ 2000) (z : ∀ p x, p < 8 → (x < l ∨ l + s ≤ x) → c p x = 0) : ipr c (fun _ x => f x) = smZ (fun k => f (l + (k : Int)) * (smN (fun p => c p (l + (k : Int))) 8 : Int)) s := by
  unfold ipr
  rw [smZ_comm (fun p i => (c p (-2000 + (i : Int)) : Int) * f (-2000 + (i : Int))) 4000 8]
  have e := winZ (g := fun x => smZ (fun p => (c p x : Int) * f x) 8) l s h (fun x hx => smZ_z (fun p hp => by rw [z p x hp hx]; exact Int.zero_mul _))
  refine Eq.trans e (smZ_ext (fun k _ => ?_))
  rw [show smZ (fun p => (c p (l + (k : Int)) : Int) * f (l + (k : Int))) 8 = smZ (fun p => f (l + (k : Int)) * (c p (l + (k : Int)) : Int)) 8 from smZ_ext (fun p _ => Int.mul_comm _ _), smZ_mul, smZ_N]
