/-! energy: the reference, and both -/
theorem encN_inj {u v : Nat} (hu : u ≤ 801) (hv : v ≤ 801) : encN u = encN v ↔ u = v := by
  refine ⟨fun e => ?_, fun e => by rw [e]⟩
  by_cases a : u < 801
  · by_cases b : v < 801
    · unfold encN at e
      rw [if_pos a, if_pos b, nI_eq (by omega) (by omega)] at e; exact e
    · have : encN v = 268435456 := encN_far.mpr (by omega)
      rw [this, encN_far] at e; omega
  · have : encN u = 268435456 := encN_far.mpr (by omega)
    rw [this] at e
    have := encN_far.mp e.symm
    omega
def bG (m : Bool) (u v : Nat) : Prop := if m then u ≤ v else v ≤ u
theorem bG_t {m : Bool} {u v : Nat} (h : m = true) : bG m u v ↔ u ≤ v := by unfold bG; rw [if_pos h]
theorem bG_f {m : Bool} {u v : Nat} (h : ¬ m = true) : bG m u v ↔ v ≤ u := by unfold bG; rw [if_neg h]
theorem bG_rf (m : Bool) (u : Nat) : bG m u u := by unfold bG; split <;> exact Nat.le_refl _
theorem m_neededL {h : Hp} {K : Int32 → Hp → Prop} {a : Row} {f un : Nat → Nat} {w p : Nat} (O : LandOK a) (z : WaysM h a w) (e3 : gI h 99 3 = a 3) (hp : p < nP a) (e118 : ∀ q, q < nP a → gI h 118 q = encN (f q)) (hun : ∀ e, (if 801 ≤ f (ttA a e) then 268435456 else ((f (ttA a e) : Int) - pIA a w e).toNat) = un e) (k : ∀ v, (∀ e, wayOK a w p e → bG (mnA a p) v (un e)) → (∃ e, wayOK a w p e ∧ un e = v) → v ≤ 268435456 → K (nI v) h) : ∃ n, M_neededAt_L4 (nI p) K n (-1) 0 h := by
  have h8 := O.1.2.1
  obtain ⟨wl, wn⟩ := wys_lt O (w := w) (p := p) (by omega)
  have wt : ∀ j, (wys a w p).testBit j = true ↔ wayOK a w p j := fun j => wys_tb O
  have unb : ∀ e, un e ≤ 268435456 := fun e => by
    rw [← hun]
    have := ppA_bd a w e
    have e1 : (ppA a w e).toInt = pIA a w e := rfl
    split <;> omega
  have npos : ∀ v, v ≤ 268435456 → ¬ nI v = -1 := fun v hv e => by
    have := congrArg Int32.toInt e
    rw [nI_toInt (by omega)] at this
    have l1 : (-1 : Int32).toInt = -1 := by decide
    omega
  refine pk_loop (σ := Int32) (fun n i x => M_neededAt_L4 (nI p) K n x (nI i) h) (fun i x => (x = -1 ∧ ∀ j, j < i → ¬ wayOK a w p j) ∨ ∃ v, x = nI v ∧ v ≤ 268435456 ∧ (∀ j, j < i → wayOK a w p j → bG (mnA a p) v (un j)) ∧ ∃ j, j < i ∧ wayOK a w p j ∧ un j = v) 24 0 (-1) (by omega) (Or.inl ⟨rfl, fun j hj => absurd hj (by omega)⟩) (fun n x J => ?_) (fun n i x hi J hk => ?_)
  · unfold M_neededAt_L4
    refine pk_le 24 24 (fun _ => ?_) (fun c => absurd c (by omega))
    rcases J with ⟨_, no⟩ | ⟨v, rfl, vb, al, j, _, j2, j3⟩
    · obtain ⟨e0, e024, w0⟩ := ways_ne O (w := w) (p := p) (by omega)
      exact absurd w0 (no e0 e024)
    · exact k v (fun e he => al e (way24 O (by omega) he) he) ⟨j, j2, j3⟩ vb
  · unfold M_neededAt_L4
    refine pk_le 24 i (fun c => absurd c (by omega)) (fun _ => ⟨pk_in p 8 (by omega), ?_⟩)
    rw [cl p, z.1 p (by omega), if_pos hp]
    refine s_isIn (by omega) (by omega) ?_
    by_cases c : wayOK a w p i
    · rw [if_pos ((wt i).mpr c)]
      rintro J113 rfl
      obtain ⟨w6, w7⟩ := ways_e z hp c
      have tl := ttA_lt O hp c
      refine brF' (by decide) ⟨pk_in i 24 hi, ?_⟩
      rw [cl i, w6, w7, cl (ttA a i), e118 _ tl]
      refine ⟨pk_in (ttA a i) 8 (by omega), ?_⟩
      have go : ∀ y : Int32, y = nI (un i) → ∀ J112 : Int32 → Hp → Prop, J112 = (fun s10 h11 => ∀ v5 : Int32, v5 = (nI i + 1) → M_neededAt_L4 (nI p) K n s10 v5 h11) → ∀ J106 : Hp → Prop, J106 = (fun h12 => J112 y h12) → (x = (-1) → J106 h) ∧ (¬ x = (-1) → M_isMine (nI p) h (fun r13 h14 => ∀ J111 : Hp → Prop, J111 = (fun h15 => J112 x h15) → (r13 = 0 → (y ≤ x → J111 h14) ∧ (¬ y ≤ x → J106 h14)) ∧ (¬ r13 = 0 → (x ≤ y → J111 h14) ∧ (¬ x ≤ y → J106 h14)))) := by
        rintro _ rfl _ rfl _ rfl
        have take : (∀ j, j < i → wayOK a w p j → bG (mnA a p) (un i) (un j)) → ∀ v5 : Int32, v5 = (nI i + 1) → M_neededAt_L4 (nI p) K n (nI (un i)) v5 h := by
          rintro al _ rfl
          rw [nI_1 i]
          refine hk _ (Or.inr ⟨un i, rfl, unb i, fun j hj hb => ?_, i, by omega, c, rfl⟩)
          by_cases e : j = i
          · subst e; exact bG_rf _ _
          · exact al j (by omega) hb
        refine ⟨fun q => take ?_, fun q => ?_⟩
        · rcases J with ⟨_, no⟩ | ⟨v, rfl, vb, _⟩
          · exact fun j hj hb => absurd hb (no j hj)
          · exact absurd q (npos v vb)
        · rcases J with ⟨e, _⟩ | ⟨v, rfl, vb, al, j, j1, j2, j3⟩
          · exact absurd e q
          · have keep : bG (mnA a p) v (un i) → ∀ v5 : Int32, v5 = (nI i + 1) → M_neededAt_L4 (nI p) K n (nI v) v5 h := by
              rintro g _ rfl
              rw [nI_1 i]
              refine hk _ (Or.inr ⟨v, rfl, vb, fun j' hj hb => ?_, j, by omega, j2, j3⟩)
              by_cases e : j' = i
              · subst e; exact g
              · exact al j' (by omega) hb
            have ub := unb i
            refine m_mine e3 O (by omega) ?_
            rintro J111 rfl
            by_cases m : mnA a p = true
            · rw [if_pos m]
              refine brF (by decide) (pk_le v (un i) (fun d => keep ((bG_t m).mpr d)) (fun d => take (fun j' hj hb => (bG_t m).mpr ?_)))
              have := (bG_t m).mp (al j' hj hb); omega
            · rw [if_neg m]
              refine brT rfl (pk_le (un i) v (fun d => keep ((bG_f m).mpr d)) (fun d => take (fun j' hj hb => (bG_f m).mpr ?_)))
              have := (bG_f m).mp (al j' hj hb); omega
      rintro J68 rfl
      have pb := ppA_bd a w i
      have pe : (ppA a w i).toInt = pIA a w i := rfl
      have l0 : (0 : Int32).toInt = 0 := by decide
      have hu := hun i
      refine ⟨fun q => ⟨pk_in i 24 hi, pk_in (ttA a i) 8 (by omega), pk_in i 24 hi, ?_⟩, fun q => ?_⟩
      · rw [encN_far] at q
        rw [if_neg q] at hu
        have e0 : encN (f (ttA a i)) = nI (f (ttA a i)) := by unfold encN; rw [if_pos (by omega)]
        have e1 : (nI (f (ttA a i)) - ppA a w i).toInt = (f (ttA a i) : Int) - pIA a w i := by rw [i_sub (by rw [nI_toInt (by omega)]; omega), nI_toInt (by omega)]; rfl
        rw [e0]
        rintro J78 rfl
        refine ⟨fun d => go _ ?_, fun d => go _ ?_⟩
        · rw [i_le, e1, l0] at d
          rw [nI_i (nI (f (ttA a i)) - ppA a w i) (by omega), e1, hu]
        · rw [i_le, e1, l0] at d
          rw [show un i = 0 by omega]; rfl
      · rw [encN_far] at q
        rw [if_pos q] at hu
        rintro J78 rfl
        refine brT (by decide) (go _ ?_)
        rw [← hu]; rfl
    · rw [if_neg (fun e => c ((wt i).mp e))]
      rintro J113 rfl
      refine brT' rfl ?_
      rintro _ rfl
      rw [nI_1 i]
      refine hk x ?_
      rcases J with ⟨e, no⟩ | ⟨v, rfl, vb, al, j, j1, j2, j3⟩
      · refine Or.inl ⟨e, fun j hj hb => ?_⟩
        by_cases e : j = i
        · subst e; exact c hb
        · exact no j (by omega) hb
      · refine Or.inr ⟨v, rfl, vb, fun j' hj hb => ?_, j, by omega, j2, j3⟩
        by_cases e : j' = i
        · subst e; exact absurd hb c
        · exact al j' (by omega) hb
theorem m_needed {h : Hp} {Q : Int32 → Hp → Prop} {a : Row} {f : Nat → Nat} {w p : Nat} (O : LandOK a) (z : WaysM h a w) (e3 : gI h 99 3 = a 3) (hp : p < nP a) (e118 : ∀ q, q < nP a → gI h 118 q = encN (f q)) (k : ∀ v, IsN (NeedW a w) (ttA a) (pIA a w) (mnA a) 801 f p v → Q (encN v) h) : M_neededAt (nI p) h Q := by
  obtain ⟨un, hun⟩ : ∃ un : Nat → Nat, ∀ e, (if 801 ≤ f (ttA a e) then 268435456 else ((f (ttA a e) : Int) - pIA a w e).toNat) = un e := ⟨_, fun _ => rfl⟩
  have al : ∀ e, alN 801 (f (ttA a e)) (pIA a w e) = min 801 (un e) := fun e => by
    rw [← hun]; unfold alN
    by_cases c : 801 ≤ f (ttA a e)
    · rw [if_pos c, if_pos c]; omega
    · rw [if_neg c, if_neg c]
  unfold M_neededAt
  refine m_neededL O z e3 hp e118 hun (fun v h1 h2 vb => ?_)
  have is : IsN (NeedW a w) (ttA a) (pIA a w) (mnA a) 801 f p (min 801 v) := by
    obtain ⟨e, he, hv⟩ := h2
    unfold IsN
    by_cases m : mnA a p = true
    · rw [if_pos m]
      refine ⟨fun e' he' => ?_, e, he, by rw [al, hv]⟩
      have := (bG_t m).mp (h1 e' he')
      rw [al]; omega
    · rw [if_neg m]
      refine ⟨fun e' he' => ?_, e, he, by rw [al, hv]⟩
      have := (bG_f m).mp (h1 e' he')
      rw [al]; omega
  have := k _ is
  refine pk_le v 800 (fun c => ?_) (fun c => ?_)
  · unfold encN at this
    rw [if_pos (by omega), show min 801 v = v by omega] at this
    exact this
  · rw [encN_far.mpr (by omega)] at this
    exact this
