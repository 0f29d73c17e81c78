/-! a road settled -/
theorem LwC_k {h h1 : Hp} {q : Nat} {a : Row} {law : Nat} (L : LwC h q a law) (e : gI h1 q 3 = gI h q 3) (e2 : ∀ i, gI h1 (q + 1) i = gI h (q + 1) i) : LwC h1 q a law := by
  rcases L with ⟨z, z2⟩ | ⟨a1, l, l0, l9, l1, l2, l3⟩
  · exact Or.inl ⟨e.trans z, z2⟩
  · exact Or.inr ⟨a1, l, l0, l9, e.trans l1, fun i hi => (e2 i).trans (l2 i hi), l3⟩
theorem LwC_0 {h : Hp} {q : Nat} {a : Row} {law : Nat} (L : LwC h q a law) (e : gI h q 3 = 0) : a (4 + law) = 0 := by
  rcases L with ⟨_, z2⟩ | ⟨a1, l, l0, l9, l1, _⟩
  · exact z2
  · rw [l1] at e
    have := (nI_eq (a := l.length) (b := 0) (by omega) (by omega)).mp e
    exact absurd (List.length_eq_zero_iff.mp this) l0
def sF : Nat → Nat → Bool := fun o k => o == 13 || o == 18 || o == 19 || tF 4 o k || tF 7 o k
theorem sF_13 (o k : Nat) (h : sF o k = false) : (fun o _ => o == 13 : Nat → Nat → Bool) o k = false := by
  simp only [sF, Bool.or_eq_false_iff] at h
  exact h.1.1.1.1
theorem sF_4 (o k : Nat) (h : sF o k = false) : tF 4 o k = false := by
  simp only [sF, Bool.or_eq_false_iff] at h
  exact h.1.2
theorem sF_7 (o k : Nat) (h : sF o k = false) : tF 7 o k = false := by
  simp only [sF, Bool.or_eq_false_iff] at h
  exact h.2
theorem st_road {h : Hp} {a : Row} {r w : Nat} {Q : Hp → Prop} (hr : r < 16) (hw : w < 10) (e0 : gI h 12 r = a (42 + r)) (e1 : gI h 10 r = a (10 + r)) (e2 : gI h 11 r = a (26 + r)) (L0 : LwC h 4 a 0) (L1 : LwC h 7 a 1) (k : ∀ h1, Fq sF h h1 → (∀ j, gI h1 19 j = if j = w * 16 + r then payA a w r else gI h 19 j) → (∀ j, gI h1 18 j = if j = w then (if opnA a w r = true then gI h 18 w ||| nI (2 ^ r) else gI h 18 w) else gI h 18 j) → Q h1) : Reader_settleRoad (nI w) (nI r) h Q := by
  unfold Reader_settleRoad
  rw [cl r]
  refine ⟨pk_in r 16 hr, ?_⟩
  intro h1 g1
  refine ⟨pk_in r 16 hr, ?_⟩
  intro h2 g2
  refine ⟨pk_in r 16 hr, ?_⟩
  intro h3 g3 h4 g4 h5 g5
  rintro J80 rfl
  have o1 : (10 : Nat) ≠ 13 := by decide
  have o2 : (11 : Nat) ≠ 13 := by decide
  have F5 : Fq (fun o _ => o == 13) h h5 := by
    rw [g5, g4, g3, g2, g1]
    exact Fq.sI (Fq.sI (Fq.sI (Fq.sI (Fq.sI (Fq.rf _ _) rfl) rfl) rfl) rfl) rfl
  have W5 : ∀ i, i < 5 → gI h5 13 i = wordsA a r w i := by
    intro i hi
    rcases i with _ | _ | _ | _ | _ | i
    · show _ = a (42 + r)
      rw [g5, sI_k (by decide), g4, sI_k (by decide), g3, sI_k (by decide), g2, sI_k (by decide), g1, sI_s, e0]
    · show gI h5 13 1 = a (10 + r)
      rw [g5, sI_k (by decide), g4, sI_k (by decide), g3, sI_k (by decide), g2, sI_s, g1, sI_o o1, e1]
    · show gI h5 13 2 = a (26 + r)
      rw [g5, sI_k (by decide), g4, sI_k (by decide), g3, sI_s, g2, sI_o o2, g1, sI_o o2, e2]
    · show gI h5 13 3 = nI r
      rw [g5, sI_k (by decide), g4, sI_s]
    · show gI h5 13 4 = nI w
      rw [g5, sI_s]
    · omega
  have rest : ∀ (v : Int32) (g : Hp), clampP v = payA a w r → Fq sF h g → (∀ j, gI g 19 j = gI h 19 j) → (∀ j, gI g 18 j = gI h 18 j) → (∀ i, i < 5 → gI g 13 i = wordsA a r w i) → LwC g 7 a 1 → J9_min_7cf53 99 v g (fun r8 h9 => J9_max_7cf53 (-99) r8 h9 (fun r10 h11 => vp_in ((nI w * 16) + nI r) 160 ∧ ∀ h12 : Hp, h12 = sI h11 19 (((nI w * 16) + nI r)).toNatClampNeg r10 → ∀ J130 : Hp → Prop, J130 = (fun h13 => vp_in (nI w) 10 ∧ vp_in (nI w) 10 ∧ ∀ h14 : Hp, h14 = sI h13 18 (nI w).toNatClampNeg ((gI h13 18 (nI w).toNatClampNeg) ||| ((1 : Int32) <<< (nI r &&& 31))) → Q h14) → ((gI h12 7 3) = 0 → J130 h12) ∧ (¬ (gI h12 7 3) = 0 → Law_tell 7 h12 (fun r15 h16 => (¬ r15 = 1 → Q h16) ∧ (r15 = 1 → J130 h16))))) := by
    intro v g hv Fg q19 q18 Wg Lg
    refine c_clamp ?_
    rw [hv, show (16 : Int32) = nI 16 from rfl, pk_mul, nI_add]
    refine ⟨pk_in (w * 16 + r) 160 (by omega), ?_⟩
    rw [cl (w * 16 + r), cl w, z_1 r (by omega)]
    rintro h12 g12 J130 rfl
    have F12 : Fq sF h h12 := by rw [g12]; exact Fq.sI Fg rfl
    have p19 : ∀ j, gI h12 19 j = if j = w * 16 + r then payA a w r else gI h 19 j := fun j => by
      by_cases c : j = w * 16 + r
      · rw [if_pos c, g12, c, sI_s]
      · rw [if_neg c, g12, sI_k c, q19 j]
    have p18 : ∀ j, gI h12 18 j = gI h 18 j := fun j => by rw [g12, sI_o (by decide)]; exact q18 j
    have L12 : LwC h12 7 a 1 := LwC_k Lg (by rw [g12, sI_o (by decide)]) (fun i => by rw [g12, sI_o (show (8 : Nat) ≠ 19 by decide)])
    have yes : ∀ hx, Fq (tF 7) h12 hx → opnA a w r = true → vp_in (nI w) 10 ∧ vp_in (nI w) 10 ∧ ∀ h14 : Hp, h14 = sI hx 18 w ((gI hx 18 w) ||| nI (2 ^ r)) → Q h14 := by
      intro hx Fx ho
      refine ⟨pk_in w 10 hw, pk_in w 10 hw, ?_⟩
      rintro _ rfl
      refine k _ (Fq.sI (F12.tr (Fx.mo sF_7)) rfl) (fun j => ?_) (fun j => ?_)
      · rw [sI_o (by decide), Fx.1.1 19 j rfl]; exact p19 j
      · by_cases c : j = w
        · rw [if_pos c, if_pos ho, c, sI_s, Fx.1.1 18 w rfl, p18 w]
        · rw [if_neg c, sI_k c, Fx.1.1 18 j rfl, p18 j]
    refine ⟨fun c => yes h12 (Fq.rf _ _) ?_, fun c => lw_tell (W := wordsA a r w) (Or.inr rfl) L12 c (fun i hi => by rw [g12, sI_o (by decide)]; exact Wg i hi) (fun hx Fx a5 => ⟨fun d => ?_, fun d => yes hx Fx ?_⟩)⟩
    · have z : a 5 = 0 := LwC_0 L12 c
      unfold opnA; rw [if_pos z]
    · have a5 : a 5 = 1 := a5
      have no : ¬ opnA a w r = true := by
        unfold opnA
        rw [if_neg (by rw [a5]; decide)]
        exact fun z => d (of_decide_eq_true z)
      refine k hx (F12.tr (Fx.mo sF_7)) (fun j => ?_) (fun j => ?_)
      · rw [Fx.1.1 19 j rfl]; exact p19 j
      · rw [if_neg no, Fx.1.1 18 j rfl, p18 j]
        by_cases c : j = w
        · rw [if_pos c, c]
        · rw [if_neg c]
    · have a5 : a 5 = 1 := a5
      unfold opnA
      rw [if_neg (by rw [a5]; decide)]
      exact decide_eq_true d
  have L5 : LwC h5 4 a 0 := LwC_k L0 (F5.1.1 4 3 rfl) (fun i => F5.1.1 5 i rfl)
  have L5' : LwC h5 7 a 1 := LwC_k L1 (F5.1.1 7 3 rfl) (fun i => F5.1.1 8 i rfl)
  refine ⟨fun c => lw_tell (W := wordsA a r w) (Or.inl rfl) L5 c W5 (fun hx Fx a4 => ?_), fun c => ⟨pk_in r 16 hr, ?_⟩⟩
  · have a4 : a 4 = 1 := a4
    refine rest _ hx ?_ ((F5.mo sF_13).tr (Fx.mo sF_4)) (fun j => (Fx.1.1 19 j rfl).trans (F5.1.1 19 j rfl)) (fun j => (Fx.1.1 18 j rfl).trans (F5.1.1 18 j rfl)) (fun i hi => (Fx.1.1 13 i rfl).trans (W5 i hi)) (LwC_k L5' (Fx.1.1 7 3 rfl) (fun i => Fx.1.1 8 i rfl))
    unfold payA; rw [if_pos a4]
  · have a4 : a 4 = 0 := LwC_0 L5 c
    have e : gI h5 12 r = a (42 + r) := (F5.1.1 12 r rfl).trans e0
    rw [e]
    refine rest _ h5 ?_ (F5.mo sF_13) (fun j => F5.1.1 19 j rfl) (fun j => F5.1.1 18 j rfl) W5 L5'
    unfold payA; rw [if_neg (by rw [a4]; decide)]
