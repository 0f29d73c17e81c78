/-! what a game is worth -/
def kmx (P : Nat → Bool) : Nat → Nat
  | 0 => 0
  | n + 1 => if P (n + 1) then n + 1 else kmx P n
theorem kmx_le (P : Nat → Bool) : ∀ n, kmx P n ≤ n
  | 0 => Nat.le_refl 0
  | n + 1 => by
    unfold kmx
    have := kmx_le P n
    split <;> omega
theorem kmx_P {P : Nat → Bool} (h0 : P 0 = true) : ∀ n, P (kmx P n) = true
  | 0 => h0
  | n + 1 => by
    unfold kmx
    by_cases q : P (n + 1) = true
    · rw [if_pos q]; exact q
    · rw [if_neg q]; exact kmx_P h0 n
theorem kmx_ge {P : Nat → Bool} : ∀ {n j : Nat}, j ≤ n → P j = true → j ≤ kmx P n
  | 0, j, h, _ => by unfold kmx; omega
  | n + 1, j, h, hj => by
    unfold kmx
    by_cases q : P (n + 1) = true
    · rw [if_pos q]; exact h
    · rw [if_neg q]
      by_cases e : j = n + 1
      · subst e; exact absurd hj q
      · exact kmx_ge (by omega) hj
section VALUE
variable (tg : Nat → Nat → Nat)
theorem gdisj {me : Nat → Bool} {c1 c2 : Nat → Nat → Int} {V : Nat → Bool} {E : Nat → Nat → Bool} {W L : Nat → Bool} (hG : gOK tg V E) (h1 : gWin tg me c1 V E W) (h2 : gWin tg (fun u => !me u) c2 V E L) (hc : ∀ u e, c1 u e + c2 u e ≤ -1) {u : Nat} (hu : W u = true) (hl : L u = true) : False := by
  obtain ⟨s, p, hp⟩ := h1
  obtain ⟨t, q, hq⟩ := h2
  have step : ∀ x, W x = true → L x = true → ∃ y, W y = true ∧ L y = true ∧ p x + q x + 1 ≤ p y + q y := by
    intro x hx hy
    have a := hp x hx
    have b := hq x hy
    cases hm : me x
    · have b1 := b.2.1 (by simp [hm])
      have a1 := a.2.2 hm _ b1.1
      have := hc x (t x)
      exact ⟨tg x (t x), a1.1, b1.2.1, by have := a1.2; have := b1.2.2; omega⟩
    · have a1 := a.2.1 hm
      have b1 := b.2.2 (by simp [hm]) _ a1.1
      have := hc x (s x)
      exact ⟨tg x (s x), a1.2.1, b1.1, by have := a1.2.2; have := b1.2; omega⟩
  obtain ⟨K, hK0, hK⟩ := bdI (fun x _ => p x + q x) 1 8
  have all : ∀ k : Nat, ∃ y, W y = true ∧ L y = true ∧ p u + q u + k ≤ p y + q y := by
    intro k
    induction k with
    | zero => exact ⟨u, hu, hl, by omega⟩
    | succ k ih =>
      obtain ⟨y, y1, y2, y3⟩ := ih
      obtain ⟨z, z1, z2, z3⟩ := step y y1 y2
      exact ⟨z, z1, z2, by omega⟩
  obtain ⟨y, y1, y2, y3⟩ := all (K - (p u + q u) + 1).toNat
  have := hK y 0 (hG.2 y (hp y y1).1).1 (by omega)
  omega
theorem gval {me : Nat → Bool} {w : Nat → Nat → Int} {V : Nat → Bool} {E : Nat → Nat → Bool} {B : Nat} (hG : gOK tg V E) (hw : ∀ u e, E u e = true → -(B : Int) ≤ w u e ∧ w u e ≤ B) (hC : ∀ t : Int, gHC tg (fun u e => w u e - t) (fun u e => (t - 1) - w u e)) :
    ∃ (val : Nat → Int) (s : Nat → Nat) (p1 p0 : Nat → Int), ∀ u, V u = true → E u (s u) = true ∧ (-(B : Int) ≤ val u ∧ val u ≤ B) ∧
      (∀ e, E u e = true → (me u = true → e = s u) → val u ≤ val (tg u e) ∧ p1 u ≤ w u e - val u + p1 (tg u e)) ∧
      (∀ e, E u e = true → (me u = false → e = s u) → val (tg u e) ≤ val u ∧ w u e - val u + p0 (tg u e) ≤ p0 u) := by
  have hex : ∀ u, ∃ e, V u = true → E u e = true := fun u => by
    by_cases q : V u = true
    · obtain ⟨e, he⟩ := (hG.2 u q).2
      exact ⟨e, fun _ => he⟩
    · exact ⟨0, fun q' => absurd q' q⟩
  obtain ⟨any, hany⟩ := Classical.axiomOfChoice hex
  have D : ∀ k : Nat, ∃ d : (Nat → Bool) × (Nat → Nat) × (Nat → Int) × (Nat → Nat) × (Nat → Int),
      (∀ u, d.1 u = true → V u = true ∧
        (me u = true → E u (d.2.1 u) = true ∧ d.1 (tg u (d.2.1 u)) = true ∧ d.2.2.1 u ≤ (w u (d.2.1 u) - (-B + k)) + d.2.2.1 (tg u (d.2.1 u))) ∧
        (me u = false → ∀ e, E u e = true → d.1 (tg u e) = true ∧ d.2.2.1 u ≤ (w u e - (-B + k)) + d.2.2.1 (tg u e))) ∧
      (∀ u, (V u && !d.1 u) = true → V u = true ∧
        ((!me u) = true → E u (d.2.2.2.1 u) = true ∧ (V (tg u (d.2.2.2.1 u)) && !d.1 (tg u (d.2.2.2.1 u))) = true ∧ d.2.2.2.2 u ≤ ((-B + k) - 1 - w u (d.2.2.2.1 u)) + d.2.2.2.2 (tg u (d.2.2.2.1 u))) ∧
        ((!me u) = false → ∀ e, E u e = true → (V (tg u e) && !d.1 (tg u e)) = true ∧ d.2.2.2.2 u ≤ ((-B + k) - 1 - w u e) + d.2.2.2.2 (tg u e))) ∧
      (k = 0 → d.1 = V) ∧ (2 * B + 1 ≤ k → ∀ u, d.1 u = false) := by
    intro k
    by_cases k0 : k = 0
    · subst k0
      refine ⟨(V, any, fun _ => 0, any, fun _ => 0), fun u hu => ⟨hu, fun _ => ?_, fun _ e he => ?_⟩, fun u hu => ?_, fun _ => rfl, fun h => absurd h (by omega)⟩
      · have h1 := hany u hu
        exact ⟨h1, (hG.1 _ _ h1).2.2, by have := (hw _ _ h1).1; show (0 : Int) ≤ (w u (any u) - (-(B : Int) + ((0 : Nat) : Int))) + 0; omega⟩
      · exact ⟨(hG.1 _ _ he).2.2, by have := (hw _ _ he).1; show (0 : Int) ≤ (_ - _) + 0; omega⟩
      · simp at hu
    · by_cases kN : 2 * B + 1 ≤ k
      · refine ⟨(fun _ => false, any, fun _ => 0, any, fun _ => 0), fun u hu => (by cases hu), fun u hu => ?_, fun h => absurd h k0, fun _ _ => rfl⟩
        have hV : V u = true := by simpa using hu
        refine ⟨hV, fun _ => ?_, fun _ e he => ?_⟩
        · have h1 := hany u hV
          exact ⟨h1, by simpa using (hG.1 _ _ h1).2.2, by have := (hw _ _ h1).2; show (0 : Int) ≤ ((-(B : Int) + k) - 1 - w u (any u)) + 0; omega⟩
        · exact ⟨by simpa using (hG.1 _ _ he).2.2, by have := (hw _ _ he).2; show (0 : Int) ≤ (_ - _) + 0; omega⟩
      · obtain ⟨W, ⟨s1, p1, h1⟩, s2, p2, h2⟩ := gdet tg (ecn E + 1) me (fun u e => w u e - (-B + k)) (fun u e => (-B + k) - 1 - w u e) V E (hC _) hG (by omega)
        exact ⟨(W, s1, p1, s2, p2), h1, h2, fun h => absurd h k0, fun h => absurd h kN⟩
  obtain ⟨d, hd⟩ := Classical.axiomOfChoice D
  have dis : ∀ j k u, k + 1 ≤ j → (d j).1 u = true → (V u && !(d (k + 1)).1 u) = true → False := by
    intro j k u hjk h1 h2
    refine gdisj tg hG (me := me) (c1 := fun u e => w u e - (-B + j)) (c2 := fun u e => (-B + (k + 1 : Nat)) - 1 - w u e) ⟨(d j).2.1, (d j).2.2.1, (hd j).1⟩ ⟨(d (k + 1)).2.2.2.1, (d (k + 1)).2.2.2.2, (hd (k + 1)).2.1⟩ (fun u e => ?_) h1 h2
    show (w u e - (-(B : Int) + j)) + ((-B + (k + 1 : Nat)) - 1 - w u e) ≤ -1
    omega
  let kk : Nat → Nat := fun u => kmx (fun k => (d k).1 u) (2 * B)
  have kk_le : ∀ u, kk u ≤ 2 * B := fun u => kmx_le _ _
  have kk_in : ∀ u, V u = true → (d (kk u)).1 u = true := fun u hu => kmx_P (P := fun k => (d k).1 u) (by rw [(hd 0).2.2.1 rfl]; exact hu) _
  have kk_ge : ∀ u k, k ≤ 2 * B → (d k).1 u = true → k ≤ kk u := fun u k h1 h2 => kmx_ge (P := fun k => (d k).1 u) h1 h2
  have kk_out : ∀ u, V u = true → (V u && !(d (kk u + 1)).1 u) = true := by
    intro u hu
    have : (d (kk u + 1)).1 u = false := by
      cases hq : (d (kk u + 1)).1 u
      · rfl
      · by_cases hl : kk u + 1 ≤ 2 * B
        · have := kk_ge u _ hl hq; omega
        · rw [(hd (kk u + 1)).2.2.2 (by omega)] at hq; cases hq
    rw [hu, this]; rfl
  have kk_lt : ∀ u k, V u = true → (V u && !(d (k + 1)).1 u) = true → kk u ≤ k := by
    intro u k hu hq
    rcases Nat.lt_or_ge k (kk u) with q | q
    · exact absurd (dis (kk u) k u q (kk_in u hu) hq) id
    · exact q
  obtain ⟨K, hK0, hK⟩ := bdI (fun u e => (d (kk u)).2.2.1 u - w u e + (-B + kk u) - (d (kk (tg u e))).2.2.1 (tg u e)) 24 8
  obtain ⟨K', hK0', hK'⟩ := bdI (fun u e => (d (kk u + 1)).2.2.2.2 u + w u e - (-B + kk u) - (d (kk (tg u e) + 1)).2.2.2.2 (tg u e)) 24 8
  have mulK : ∀ (K : Int) (a b : Nat), 0 ≤ K → a + 1 ≤ b → K * a + K ≤ K * b := by
    intro K a b h0 h
    have : K * (a + 1 : Nat) ≤ K * b := Int.mul_le_mul_of_nonneg_left (by omega) h0
    rw [Int.natCast_add, Int.mul_add] at this
    simpa using this
  refine ⟨fun u => -B + kk u, fun u => if me u then (d (kk u)).2.1 u else (d (kk u + 1)).2.2.2.1 u, fun u => (d (kk u)).2.2.1 u + K * kk u, fun u => -((d (kk u + 1)).2.2.2.2 u - K' * kk u), fun u hu => ?_⟩
  have hi := (hd (kk u)).1 u (kk_in u hu)
  have ho := (hd (kk u + 1)).2.1 u (kk_out u hu)
  have hkb := kk_le u
  refine ⟨?_, ⟨by show -(B : Int) ≤ -B + kk u; omega, by show -(B : Int) + kk u ≤ B; omega⟩, fun e he hme => ?_, fun e he hme => ?_⟩
  · cases hm : me u
    · simp only [hm, Bool.false_eq_true, if_false]; exact (ho.2.1 (by simp [hm])).1
    · simp only [hm, if_true]; exact (hi.2.1 hm).1
  · have hh : (d (kk u)).1 (tg u e) = true ∧ (d (kk u)).2.2.1 u ≤ (w u e - (-B + kk u)) + (d (kk u)).2.2.1 (tg u e) := by
      cases hm : me u
      · exact hi.2.2 hm e he
      · have e1 := hme hm
        simp only [hm, if_true] at e1
        rw [e1]
        exact (hi.2.1 hm).2
    have hge := kk_ge (tg u e) (kk u) (kk_le u) hh.1
    refine ⟨by show -(B : Int) + kk u ≤ -B + kk (tg u e); omega, ?_⟩
    show (d (kk u)).2.2.1 u + K * kk u ≤ w u e - (-B + kk u) + ((d (kk (tg u e))).2.2.1 (tg u e) + K * kk (tg u e))
    by_cases q : kk (tg u e) = kk u
    · rw [q]; have := hh.2; omega
    · have h1 := mulK K (kk u) (kk (tg u e)) hK0 (by omega)
      have h2 := hK u e (hG.2 u hu).1 (hG.1 _ _ he).2.1
      omega
  · have hh : (V (tg u e) && !(d (kk u + 1)).1 (tg u e)) = true ∧ (d (kk u + 1)).2.2.2.2 u ≤ ((-B + (kk u + 1 : Nat)) - 1 - w u e) + (d (kk u + 1)).2.2.2.2 (tg u e) := by
      cases hm : me u
      · have e1 := hme hm
        simp only [hm, Bool.false_eq_true, if_false] at e1
        rw [e1]
        exact (ho.2.1 (by simp [hm])).2
      · exact ho.2.2 (by simp [hm]) e he
    have hle := kk_lt (tg u e) (kk u) (hG.1 _ _ he).2.2 hh.1
    refine ⟨by show -(B : Int) + kk (tg u e) ≤ -B + kk u; omega, ?_⟩
    show w u e - (-B + kk u) + -((d (kk (tg u e) + 1)).2.2.2.2 (tg u e) - K' * kk (tg u e)) ≤ -((d (kk u + 1)).2.2.2.2 u - K' * kk u)
    by_cases q : kk (tg u e) = kk u
    · rw [q]; have := hh.2; omega
    · have h1 := mulK K' (kk (tg u e)) (kk u) hK0' (by omega)
      have h2 := hK' u e (hG.2 u hu).1 (hG.1 _ _ he).2.1
      omega
end VALUE
