/-! what plans secure; what the game is worth -/
theorem list_mn {α : Type} (f : α → Int) (Q : α → Prop) : ∀ (l : List α), (∃ x, x ∈ l ∧ Q x) → ∃ x, x ∈ l ∧ Q x ∧ ∀ y, y ∈ l → Q y → f x ≤ f y
  | [], h => by obtain ⟨x, hx, _⟩ := h; cases hx
  | a :: l, h => by
    by_cases e : ∃ x, x ∈ l ∧ Q x
    · obtain ⟨x, h1, h2, h3⟩ := list_mn f Q l e
      by_cases qa : Q a ∧ f a ≤ f x
      · refine ⟨a, List.mem_cons_self, qa.1, fun y hy hq => ?_⟩
        rcases List.mem_cons.mp hy with rfl | hy
        · exact Int.le_refl _
        · exact Int.le_trans qa.2 (h3 y hy hq)
      · refine ⟨x, List.mem_cons_of_mem _ h1, h2, fun y hy hq => ?_⟩
        rcases List.mem_cons.mp hy with rfl | hy
        · have : ¬ f y ≤ f x := fun q => qa ⟨hq, q⟩
          omega
        · exact h3 y hy hq
    · obtain ⟨x, hx, hq⟩ := h
      rcases List.mem_cons.mp hx with rfl | hx
      · refine ⟨x, List.mem_cons_self, hq, fun y hy hq' => ?_⟩
        rcases List.mem_cons.mp hy with rfl | hy
        · exact Int.le_refl _
        · exact absurd ⟨y, hy, hq'⟩ e
      · exact absurd ⟨x, hx, hq⟩ e
section DUEL
variable (tt : Nat → Nat) (pp : Nat → Int)
def Mts (S : Nat → List Nat) (p : Nat) (R : Rg) : Prop := ∃ q, Rch tt S p q ∧ R.2.1.testBit q = true
/-- v is the least (who = 1), the greatest mean come to from p -/
def IsS (who : Nat) (S : Nat → List Nat) (P p : Nat) (v : Int) : Prop := (∃ R, R ∈ rings tt pp S P ∧ Mts tt S p R ∧ mR R = v) ∧ ∀ R, R ∈ rings tt pp S P → Mts tt S p R → if who = 1 then v ≤ mR R else mR R ≤ v
noncomputable def sv (who : Nat) (S : Nat → List Nat) (P p : Nat) : Int := @dite Int (∃ v, IsS tt pp who S P p v) (Classical.propDecidable _) (fun h => Classical.choose h) (fun _ => 0)
theorem IsS_u {who : Nat} {S : Nat → List Nat} {P p : Nat} {v v' : Int} (h : IsS tt pp who S P p v) (h' : IsS tt pp who S P p v') : v = v' := by
  obtain ⟨⟨R, r1, r2, r3⟩, r4⟩ := h
  obtain ⟨⟨R', s1, s2, s3⟩, s4⟩ := h'
  have a := r4 R' s1 s2
  have b := s4 R r1 r2
  by_cases q : who = 1
  · rw [if_pos q] at a b; omega
  · rw [if_neg q] at a b; omega
theorem sv_eq {who : Nat} {S : Nat → List Nat} {P p : Nat} {v : Int} (h : IsS tt pp who S P p v) : sv tt pp who S P p = v := by
  have hex : ∃ v, IsS tt pp who S P p v := ⟨v, h⟩
  unfold sv
  rw [dif_pos hex]
  exact IsS_u tt pp (Classical.choose_spec hex) h
theorem IsS_ex {who : Nat} {S : Nat → List Nat} {P p : Nat} (hG : GW tt pp S P) (hp : p < P) : ∃ v, IsS tt pp who S P p v := by
  obtain ⟨R, q, h1, h2, h3⟩ := ring_ex tt pp hG hp
  by_cases hw : who = 1
  · obtain ⟨X, x1, x2, x3⟩ := list_mn mR (Mts tt S p) (rings tt pp S P) ⟨R, h1, q, h2, h3⟩
    exact ⟨mR X, ⟨X, x1, x2, rfl⟩, fun R' r1 r2 => by rw [if_pos hw]; exact x3 R' r1 r2⟩
  · obtain ⟨X, x1, x2, x3⟩ := list_mn (fun R => - mR R) (Mts tt S p) (rings tt pp S P) ⟨R, h1, q, h2, h3⟩
    exact ⟨mR X, ⟨X, x1, x2, rfl⟩, fun R' r1 r2 => by rw [if_neg hw]; have := x3 R' r1 r2; omega⟩
theorem sv_is {who : Nat} {S : Nat → List Nat} {P p : Nat} (hG : GW tt pp S P) (hp : p < P) : IsS tt pp who S P p (sv tt pp who S P p) := by
  obtain ⟨v, hv⟩ := IsS_ex tt pp (who := who) hG hp
  rw [sv_eq tt pp hv]; exact hv
theorem rgs_mono {S T : Nat → List Nat} {fst : Nat} (hs : ∀ p e, e ∈ S p → e ∈ T p) : ∀ {d p ws pl : Nat} {pay : Int} {n : Nat} {R : Rg}, R ∈ rgs tt pp S fst d p ws pl pay n → R ∈ rgs tt pp T fst d p ws pl pay n
  | 0, _, _, _, _, _, _, h => by cases h
  | d + 1, p, ws, pl, pay, n, R, h => by
    obtain ⟨e, he, h⟩ := (mem_rgs tt pp).mp h
    refine (mem_rgs tt pp).mpr ⟨e, hs p e he, ?_⟩
    rcases h with h | ⟨a, b, c, h⟩
    · exact Or.inl h
    · exact Or.inr ⟨a, b, c, rgs_mono hs h⟩
theorem rings_mono {S T : Nat → List Nat} {P : Nat} (hs : ∀ p e, e ∈ S p → e ∈ T p) {R : Rg} (h : R ∈ rings tt pp S P) : R ∈ rings tt pp T P := by
  obtain ⟨p, hp, h⟩ := (mem_rings tt pp).mp h
  exact (mem_rings tt pp).mpr ⟨p, hp, rgs_mono tt pp hs h⟩
theorem Mts.mono {S T : Nat → List Nat} (hs : ∀ p e, e ∈ S p → e ∈ T p) {p : Nat} {R : Rg} (h : Mts tt S p R) : Mts tt T p R := by
  obtain ⟨q, h1, h2⟩ := h
  exact ⟨q, h1.mono tt hs, h2⟩
theorem weak {S1 S0 T : Nat → List Nat} {P p : Nat} (hT : GW tt pp T P) (h1 : ∀ p e, e ∈ T p → e ∈ S1 p) (h0 : ∀ p e, e ∈ T p → e ∈ S0 p) (g1 : GW tt pp S1 P) (g0 : GW tt pp S0 P) (hp : p < P) : sv tt pp 1 S1 P p ≤ sv tt pp 0 S0 P p := by
  obtain ⟨R, q, r1, r2, r3⟩ := ring_ex tt pp hT hp
  have hm : Mts tt T p R := ⟨q, r2, r3⟩
  have a := (sv_is tt pp (who := 1) g1 hp).2 R (rings_mono tt pp h1 r1) (hm.mono tt h1)
  have b := (sv_is tt pp (who := 0) g0 hp).2 R (rings_mono tt pp h0 r1) (hm.mono tt h0)
  rw [if_pos rfl] at a
  rw [if_neg (by decide)] at b
  omega
/-- the whole plans of a player, way by way from place 0 on -/
def upS (S : Nat → List Nat) (p e : Nat) : Nat → List Nat := fun q => if q = p then [e] else S q
def pls (own : Nat → Bool) (A : Nat → List Nat) : Nat → Nat → (Nat → List Nat) → List (Nat → List Nat)
  | 0, _, S => [S]
  | k + 1, p, S => if own p then (A p).flatMap (fun e => pls own A k (p + 1) (upS S p e)) else pls own A k (p + 1) S
theorem mem_pls {own : Nat → Bool} {A : Nat → List Nat} : ∀ {k p : Nat} {S X : Nat → List Nat}, X ∈ pls own A k p S ↔ ∀ q, if p ≤ q ∧ q < p + k ∧ own q = true then ∃ e, e ∈ A q ∧ X q = [e] else X q = S q
  | 0, p, S, X => by
    show X ∈ [S] ↔ _
    rw [List.mem_singleton]
    constructor
    · rintro rfl q; rw [if_neg (by omega)]
    · intro h
      funext q
      have := h q
      rw [if_neg (by omega)] at this
      exact this
  | k + 1, p, S, X => by
    unfold pls
    by_cases ho : own p = true
    · rw [if_pos ho, List.mem_flatMap]
      constructor
      · rintro ⟨e, he, h⟩ q
        have h := (mem_pls.mp h) q
        by_cases c : p ≤ q ∧ q < p + (k + 1) ∧ own q = true
        · rw [if_pos c]
          by_cases e1 : q = p
          · subst e1
            rw [if_neg (by omega)] at h
            exact ⟨e, he, by rw [h]; unfold upS; rw [if_pos rfl]⟩
          · rw [if_pos ⟨by omega, by omega, c.2.2⟩] at h
            exact h
        · rw [if_neg c]
          have e1 : q ≠ p := fun r => c ⟨by omega, by omega, by rw [r]; exact ho⟩
          rw [if_neg (fun r => c ⟨by omega, by omega, r.2.2⟩)] at h
          rw [h]; unfold upS; rw [if_neg e1]
      · intro h
        have hp := h p
        rw [if_pos ⟨by omega, by omega, ho⟩] at hp
        obtain ⟨e, he, hX⟩ := hp
        refine ⟨e, he, mem_pls.mpr (fun q => ?_)⟩
        have hq := h q
        by_cases c : p + 1 ≤ q ∧ q < p + 1 + k ∧ own q = true
        · rw [if_pos c]
          rw [if_pos ⟨by omega, by omega, c.2.2⟩] at hq
          exact hq
        · rw [if_neg c]
          unfold upS
          by_cases e1 : q = p
          · rw [if_pos e1, e1]; exact hX
          · rw [if_neg e1]
            rw [if_neg (fun r => c ⟨by omega, by omega, r.2.2⟩)] at hq
            exact hq
    · rw [if_neg ho, mem_pls]
      constructor
      · intro h q
        have h := h q
        by_cases c : p ≤ q ∧ q < p + (k + 1) ∧ own q = true
        · have e1 : q ≠ p := fun r => ho (r ▸ c.2.2)
          rw [if_pos c]
          rw [if_pos ⟨by omega, by omega, c.2.2⟩] at h
          exact h
        · rw [if_neg c]
          rw [if_neg (fun r => c ⟨by omega, by omega, r.2.2⟩)] at h
          exact h
      · intro h q
        have h := h q
        by_cases c : p + 1 ≤ q ∧ q < p + 1 + k ∧ own q = true
        · rw [if_pos c]
          rw [if_pos ⟨by omega, by omega, c.2.2⟩] at h
          exact h
        · rw [if_neg c]
          have : ¬ (p ≤ q ∧ q < p + (k + 1) ∧ own q = true) := by
            rintro ⟨a, b, d⟩
            have e1 : q ≠ p := fun r => ho (r ▸ d)
            exact c ⟨by omega, by omega, d⟩
          rw [if_neg this] at h
          exact h
/-- own who: whose places these are; the plans of who -/
def ownB (me : Nat → Bool) (who : Nat) : Nat → Bool := fun p => me p == (who == 1)
def PLs (me : Nat → Bool) (A : Nat → List Nat) (P who : Nat) : List (Nat → List Nat) := pls (ownB me who) A P 0 A
theorem mem_PLs {me : Nat → Bool} {A : Nat → List Nat} {P who : Nat} {X : Nat → List Nat} : X ∈ PLs me A P who ↔ ∀ q, if q < P ∧ ownB me who q = true then ∃ e, e ∈ A q ∧ X q = [e] else X q = A q := by
  unfold PLs
  rw [mem_pls]
  constructor
  · intro h q
    have h := h q
    by_cases c : q < P ∧ ownB me who q = true
    · rw [if_pos c]; rw [if_pos ⟨by omega, by omega, c.2⟩] at h; exact h
    · rw [if_neg c]; rw [if_neg (fun r => c ⟨by omega, r.2.2⟩)] at h; exact h
  · intro h q
    have h := h q
    by_cases c : q < P ∧ ownB me who q = true
    · rw [if_pos ⟨by omega, by omega, c.2⟩]; rw [if_pos c] at h; exact h
    · rw [if_neg (fun r => c ⟨by omega, r.2.2⟩)]; rw [if_neg c] at h; exact h
theorem PLs_sub {me : Nat → Bool} {A : Nat → List Nat} {P who : Nat} {X : Nat → List Nat} (h : X ∈ PLs me A P who) : ∀ p e, e ∈ X p → e ∈ A p := by
  intro p e he
  have h := mem_PLs.mp h p
  by_cases c : p < P ∧ ownB me who p = true
  · rw [if_pos c] at h
    obtain ⟨x, hx, hX⟩ := h
    rw [hX, List.mem_singleton] at he
    rw [he]; exact hx
  · rw [if_neg c] at h; rw [← h]; exact he
theorem GW_sub {A X : Nat → List Nat} {P : Nat} (hA : GW tt pp A P) (hs : ∀ p e, e ∈ X p → e ∈ A p) (hn : ∀ p, p < P → X p ≠ []) : GW tt pp X P := ⟨hA.1, fun p hp => ⟨hn p hp, fun e he => (hA.2 p hp).2 e (hs p e he)⟩⟩
theorem PLs_GW {me : Nat → Bool} {A : Nat → List Nat} {P who : Nat} {X : Nat → List Nat} (hA : GW tt pp A P) (h : X ∈ PLs me A P who) : GW tt pp X P := by
  refine GW_sub tt pp hA (PLs_sub h) (fun p hp q => ?_)
  have h := mem_PLs.mp h p
  by_cases c : p < P ∧ ownB me who p = true
  · rw [if_pos c] at h
    obtain ⟨x, hx, hX⟩ := h
    rw [hX] at q; cases q
  · rw [if_neg c] at h; rw [h] at q; exact (hA.2 p hp).1 q
theorem duel_weak {me : Nat → Bool} {A : Nat → List Nat} {P p : Nat} {X Y : Nat → List Nat} (hA : GW tt pp A P) (hX : X ∈ PLs me A P 1) (hY : Y ∈ PLs me A P 0) (hp : p < P) : sv tt pp 1 X P p ≤ sv tt pp 0 Y P p := by
  have key : ∀ q, q < P → (X q = A q ∧ Y q ≠ [] ∧ ∀ e, e ∈ Y q → e ∈ A q) ∨ (Y q = A q ∧ X q ≠ [] ∧ ∀ e, e ∈ X q → e ∈ A q) := by
    intro q hq
    have a := mem_PLs.mp hX q
    cases hm : me q
    · rw [if_neg (by simp [ownB, hm])] at a
      exact Or.inl ⟨a, ((PLs_GW tt pp hA hY).2 q hq).1, PLs_sub hY q⟩
    · have b := mem_PLs.mp hY q
      rw [if_neg (by simp [ownB, hm])] at b
      exact Or.inr ⟨b, ((PLs_GW tt pp hA hX).2 q hq).1, PLs_sub hX q⟩
  refine weak tt pp (T := fun q => if q < P then (if me q then X q else Y q) else []) (GW_sub tt pp hA (fun q e he => ?_) (fun q hq => ?_)) (fun q e he => ?_) (fun q e he => ?_) (PLs_GW tt pp hA hX) (PLs_GW tt pp hA hY) hp
  · have he : e ∈ (if q < P then (if me q then X q else Y q) else []) := he
    by_cases hq : q < P
    · rw [if_pos hq] at he
      cases hm : me q
      · rw [hm, if_neg (by decide)] at he; exact PLs_sub hY q e he
      · rw [hm, if_pos rfl] at he; exact PLs_sub hX q e he
    · rw [if_neg hq] at he; cases he
  · show (if q < P then (if me q then X q else Y q) else []) ≠ []
    rw [if_pos hq]
    cases hm : me q
    · rw [if_neg (by decide)]; exact ((PLs_GW tt pp hA hY).2 q hq).1
    · rw [if_pos rfl]; exact ((PLs_GW tt pp hA hX).2 q hq).1
  · have he : e ∈ (if q < P then (if me q then X q else Y q) else []) := he
    by_cases hq : q < P
    · rw [if_pos hq] at he
      cases hm : me q
      · rw [hm, if_neg (by decide)] at he
        have a := mem_PLs.mp hX q
        rw [if_neg (by simp [ownB, hm])] at a
        rw [a]; exact PLs_sub hY q e he
      · rw [hm, if_pos rfl] at he; exact he
    · rw [if_neg hq] at he; cases he
  · have he : e ∈ (if q < P then (if me q then X q else Y q) else []) := he
    by_cases hq : q < P
    · rw [if_pos hq] at he
      cases hm : me q
      · rw [hm, if_neg (by decide)] at he; exact he
      · rw [hm, if_pos rfl] at he
        have b := mem_PLs.mp hY q
        rw [if_neg (by simp [ownB, hm])] at b
        rw [b]; exact PLs_sub hX q e he
    · rw [if_neg hq] at he; cases he
theorem gsum_c1 (f : Nat → Nat) (t : Int) : ∀ k x, gsum (fun _ e => tt e) f (fun _ e => 840 * pp e - t) k x = 840 * gsum (fun _ e => tt e) f (fun _ e => pp e) k x - k * t
  | 0, x => by show (0 : Int) = 840 * 0 - ((0 : Nat) : Int) * t; simp
  | k + 1, x => by
    show (840 * pp (f x) - t) + gsum (fun _ e => tt e) f (fun _ e => 840 * pp e - t) k (tt (f x)) = 840 * (pp (f x) + gsum (fun _ e => tt e) f (fun _ e => pp e) k (tt (f x))) - ((k + 1 : Nat) : Int) * t
    rw [gsum_c1 f t k, Int.natCast_add, Int.add_mul, Int.mul_add]
    have : ((1 : Nat) : Int) * t = t := by simp
    rw [this]
    omega
theorem gsum_c2 (f : Nat → Nat) (t : Int) : ∀ k x, gsum (fun _ e => tt e) f (fun _ e => (t - 1) - 840 * pp e) k x = k * (t - 1) - 840 * gsum (fun _ e => tt e) f (fun _ e => pp e) k x
  | 0, x => by show (0 : Int) = ((0 : Nat) : Int) * (t - 1) - 840 * 0; simp
  | k + 1, x => by
    show ((t - 1) - 840 * pp (f x)) + gsum (fun _ e => tt e) f (fun _ e => (t - 1) - 840 * pp e) k (tt (f x)) = ((k + 1 : Nat) : Int) * (t - 1) - 840 * (pp (f x) + gsum (fun _ e => tt e) f (fun _ e => pp e) k (tt (f x)))
    rw [gsum_c2 f t k, Int.natCast_add, Int.add_mul, Int.mul_add]
    have : ((1 : Nat) : Int) * (t - 1) = t - 1 := by simp
    rw [this]
    omega
theorem duel_HC (t : Int) : gHC (fun _ e => tt e) (fun _ e => 840 * pp e - t) (fun _ e => (t - 1) - 840 * pp e) := by
  intro f x k h1 h8 _
  rw [gsum_c1, gsum_c2]
  generalize gsum (fun _ e => tt e) f (fun _ e => pp e) k x = s
  obtain ⟨m, hm⟩ := dvd840 h1 h8
  rcases (show m * s < t ∨ t ≤ m * s by omega) with q | q
  · right
    have : (k : Int) * (m * s) ≤ k * (t - 1) := Int.mul_le_mul_of_nonneg_left (by omega) (by omega)
    rw [hm, Int.mul_assoc]; omega
  · left
    have : (k : Int) * t ≤ k * (m * s) := Int.mul_le_mul_of_nonneg_left q (by omega)
    rw [hm, Int.mul_assoc]; omega
/-- THE VALUE: plans of both that secure it from everywhere, and none secures more -/
theorem duel {me : Nat → Bool} {A : Nat → List Nat} {P : Nat} (hA : GW tt pp A P) : ∃ val : Nat → Int,
    (∃ X, X ∈ PLs me A P 1 ∧ ∀ p, p < P → sv tt pp 1 X P p = val p) ∧ (∃ Y, Y ∈ PLs me A P 0 ∧ ∀ p, p < P → sv tt pp 0 Y P p = val p) ∧
    (∀ X, X ∈ PLs me A P 1 → ∀ p, p < P → sv tt pp 1 X P p ≤ val p) ∧ (∀ Y, Y ∈ PLs me A P 0 → ∀ p, p < P → val p ≤ sv tt pp 0 Y P p) := by
  have hG : gOK (fun _ e => tt e) (fun u => decide (u < P)) (fun u e => decide (u < P) && decide (e ∈ A u)) := by
    constructor
    · intro u e h
      simp only [Bool.and_eq_true, decide_eq_true_iff] at h ⊢
      have := (hA.2 u h.1).2 e h.2
      exact ⟨h.1, this.2.2, this.1⟩
    · intro u h
      simp only [decide_eq_true_iff] at h
      have h8 := hA.1
      refine ⟨by omega, ?_⟩
      cases hl : A u with
      | nil => exact absurd hl (hA.2 u h).1
      | cons e l => exact ⟨e, by simp [h, hl]⟩
  obtain ⟨val, s, p1, p0, hv⟩ := gval (fun _ e => tt e) (me := me) (w := fun _ e => 840 * pp e) (B := 83160) hG (fun u e h => by
    simp only [Bool.and_eq_true, decide_eq_true_iff] at h
    have := ((hA.2 u h.1).2 e h.2).2.1
    omega) (fun t => duel_HC tt pp t)
  have hv : ∀ u, u < P → s u ∈ A u ∧
      (∀ e, e ∈ A u → (me u = true → e = s u) → val u ≤ val (tt e) ∧ p1 u ≤ 840 * pp e - val u + p1 (tt e)) ∧
      (∀ e, e ∈ A u → (me u = false → e = s u) → val (tt e) ≤ val u ∧ 840 * pp e - val u + p0 (tt e) ≤ p0 u) := by
    intro u hu
    have := hv u (by simp [hu])
    refine ⟨by simpa [hu] using this.1, fun e he hm => this.2.2.1 e (by simp [hu, he]) hm, fun e he hm => this.2.2.2 e (by simp [hu, he]) hm⟩
  let X : Nat → Nat → List Nat := fun who q => if q < P ∧ ownB me who q = true then [s q] else A q
  have hX : ∀ who, X who ∈ PLs me A P who := fun who => mem_PLs.mpr (fun q => by
    by_cases c : q < P ∧ ownB me who q = true
    · rw [if_pos c]; exact ⟨s q, (hv q c.1).1, if_pos c⟩
    · rw [if_neg c]; exact if_neg c)
  have g1 := PLs_GW tt pp hA (hX 1)
  have g0 := PLs_GW tt pp hA (hX 0)
  have e1 : ∀ q, q < P → ∀ e, e ∈ X 1 q → val q ≤ val (tt e) ∧ p1 q ≤ 840 * pp e - val q + p1 (tt e) := by
    intro q hq e he
    refine (hv q hq).2.1 e (PLs_sub (hX 1) q e he) (fun hm => ?_)
    have : X 1 q = [s q] := if_pos ⟨hq, by simp [ownB, hm]⟩
    rw [this] at he
    exact List.mem_singleton.mp he
  have e0 : ∀ q, q < P → ∀ e, e ∈ X 0 q → val (tt e) ≤ val q ∧ 840 * pp e - val q + p0 (tt e) ≤ p0 q := by
    intro q hq e he
    refine (hv q hq).2.2 e (PLs_sub (hX 0) q e he) (fun hm => ?_)
    have : X 0 q = [s q] := if_pos ⟨hq, by simp [ownB, hm]⟩
    rw [this] at he
    exact List.mem_singleton.mp he
  have a1 : ∀ p, p < P → val p ≤ sv tt pp 1 (X 1) P p := by
    intro p hp
    obtain ⟨⟨R, r1, ⟨q, r2, r3⟩, r4⟩, -⟩ := sv_is tt pp (who := 1) g1 hp
    have hq := r2.inv tt (I := fun q => q < P ∧ val p ≤ val q) (fun q e h he => ⟨((g1.2 q h.1).2 e he).1, by have := (e1 q h.1 e he).1; have := h.2; omega⟩) ⟨hp, Int.le_refl _⟩
    have := rings_pot tt pp g1 e1 r1 r3
    rw [← r4]; have := hq.2; omega
  have a0 : ∀ p, p < P → sv tt pp 0 (X 0) P p ≤ val p := by
    intro p hp
    obtain ⟨⟨R, r1, ⟨q, r2, r3⟩, r4⟩, -⟩ := sv_is tt pp (who := 0) g0 hp
    have hq := r2.inv tt (I := fun q => q < P ∧ val q ≤ val p) (fun q e h he => ⟨((g0.2 q h.1).2 e he).1, by have := (e0 q h.1 e he).1; have := h.2; omega⟩) ⟨hp, Int.le_refl _⟩
    have := rings_pot' tt pp g0 e0 r1 r3
    rw [← r4]; have := hq.2; omega
  refine ⟨val, ⟨X 1, hX 1, fun p hp => ?_⟩, ⟨X 0, hX 0, fun p hp => ?_⟩, fun Z hZ p hp => ?_, fun Z hZ p hp => ?_⟩
  · have := duel_weak tt pp hA (hX 1) (hX 0) hp
    have := a1 p hp; have := a0 p hp; omega
  · have := duel_weak tt pp hA (hX 1) (hX 0) hp
    have := a1 p hp; have := a0 p hp; omega
  · have := duel_weak tt pp hA hZ (hX 0) hp
    have := a0 p hp; omega
  · have := duel_weak tt pp hA (hX 1) hZ hp
    have := a1 p hp; omega
end DUEL
