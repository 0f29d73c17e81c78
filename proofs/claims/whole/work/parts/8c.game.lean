/-! the reference's game -/
def unX (X : Nat → Nat) (p U : Nat) : Prop := U < 2 ^ 24 ∧ ∀ e, U.testBit e = true ↔ ∃ q, q < p ∧ (X q).testBit e = true
theorem unX_s {X : Nat → Nat} {p U n : Nat} (h : unX X p U) (hn : n < 2 ^ 24) (hp : ∀ q, q < p → True) : unX (upX X p n) (p + 1) (U ||| n) := by
  refine ⟨Nat.or_lt_two_pow h.1 hn, fun e => ?_⟩
  rw [Nat.testBit_or, Bool.or_eq_true, h.2]
  constructor
  · rintro (⟨q, hq, hb⟩ | hb)
    · exact ⟨q, by omega, by rw [upX_n (by omega)]; exact hb⟩
    · exact ⟨p, by omega, by rw [upX_s]; exact hb⟩
  · rintro ⟨q, hq, hb⟩
    by_cases c : q = p
    · subst c; rw [upX_s] at hb; exact Or.inr hb
    · rw [upX_n c] at hb; exact Or.inl ⟨q, by omega, hb⟩
theorem upX_id (X : Nat → Nat) (p : Nat) : upX X p (X p) = X := by
  funext q
  by_cases c : q = p
  · subst c; rw [upX_s]
  · rw [upX_n c]
/-- the plans gone through: Φ behind each -/
theorem m_goesPlans {a : Row} {w who : Nat} {x4 : Int32} {Φ : List (Nat → Nat) → Hp → Prop} (O : LandOK a) (hwho : who < 2) (h0 : ∀ done h, Φ done h → (∀ j, gI h 99 j = a j) ∧ WaysM h a w) (leaf : ∀ done X U h (Q : Hp → Prop), XOK a w X → UX a X U → Φ done h → (∀ h1, Φ (done ++ [X]) h1 → Q h1) → M_laysSecured (nI who) (nI U) h (fun h2 => (¬ x4 = 0 → M_counts (nI who) (nI U) h2 (fun h3 => Q h3)) ∧ (x4 = 0 → M_gathers h2 (fun h4 => Q h4)))) : ∀ (k fuel p U : Nat) (X : Nat → Nat) (done : List (Nat → Nat)) (h : Hp) (Q : Hp → Prop), k < fuel → p + k = nP a → (∀ q, q < p → X q ≠ 0 ∧ ∀ e, (X q).testBit e = true → (wys a w q).testBit e = true) → (∀ q, p ≤ q → X q = wys a w q) → unX X p U → Φ done h → (∀ h1, Φ (done ++ plx (ownB (mnA a) who) (wys a w) k p X) h1 → Q h1) → M_goesPlans fuel (nI who) (nI p) (nI U) x4 h Q := by
  have h8 := O.1.2.1
  intro k
  induction k with
  | zero =>
    intro fuel p U X done h Q hf hpk hX1 hX2 hU hΦ kk
    obtain ⟨f, rfl⟩ : ∃ f, fuel = f + 1 := ⟨fuel - 1, by omega⟩
    obtain ⟨g99, z⟩ := h0 done h hΦ
    have ep : p = nP a := by omega
    subst ep
    show M_goesPlans_B (M_goesPlans f) _ _ _ _ _ _
    unfold M_goesPlans_B
    rintro J49 rfl
    rw [g99, O.1.2.2]
    refine pk_le (nP a) (nP a) (fun _ => ?_) (fun c => absurd c (by omega))
    show (gI h 99 1 ≤ nI (nP a) → _) ∧ (¬ gI h 99 1 ≤ nI (nP a) → _)
    rw [g99, O.1.2.2]
    refine pk_le (nP a) (nP a) (fun _ => ?_) (fun c => absurd c (by omega))
    exact leaf done X U h Q (fun q hq => hX1 q hq) hU hΦ kk
  | succ k ih =>
    intro fuel p U X done h Q hf hpk hX1 hX2 hU hΦ kk
    obtain ⟨f, rfl⟩ : ∃ f, fuel = f + 1 := ⟨fuel - 1, by omega⟩
    obtain ⟨g99, z⟩ := h0 done h hΦ
    have hp : p < nP a := by omega
    have wl := wys_lt O (w := w) (p := p) (by omega)
    show M_goesPlans_B (M_goesPlans f) _ _ _ _ _ _
    unfold M_goesPlans_B
    rintro J49 rfl
    rw [g99, O.1.2.2]
    refine pk_le (nP a) p (fun c => absurd c (by omega)) (fun _ => m_mine (a := a) (g99 3) O (by omega) ?_)
    rintro J25 rfl
    have main : ∀ s13 : Int32, s13 = nI who → (((if mnA a p then (1 : Int32) else 0) = s13 → (fun h1 => ((gI h1 99 1) ≤ nI p → M_laysSecured (nI who) (nI U) h1 (fun h2 => (¬ x4 = 0 → M_counts (nI who) (nI U) h2 (fun h3 => Q h3)) ∧ (x4 = 0 → M_gathers h2 (fun h4 => Q h4)))) ∧ (¬ (gI h1 99 1) ≤ nI p → ∃ n10, M_goesPlans_L62 (nI who) (nI p) (nI U) x4 (M_goesPlans f) Q n10 0 h1)) h) ∧ (¬ (if mnA a p then (1 : Int32) else 0) = s13 → vp_in (nI p) 8 ∧ M_goesPlans f (nI who) (nI p + 1) (nI U ||| (gI h 108 (nI p).toNatClampNeg)) x4 h (fun h15 => Q h15))) := by
      rintro _ rfl
      rw [own_i hwho]
      refine ⟨fun c => ?_, fun c => ⟨pk_in p 8 (by omega), ?_⟩⟩
      · show ((gI h 99 1) ≤ nI p → _) ∧ (¬ (gI h 99 1) ≤ nI p → _)
        rw [g99, O.1.2.2]
        refine pk_le (nP a) p (fun c => absurd c (by omega)) (fun _ => ?_)
        have epl : plx (ownB (mnA a) who) (wys a w) (k + 1) p X = (bl (wys a w p)).flatMap (fun e => plx (ownB (mnA a) who) (wys a w) k (p + 1) (upX X p (2 ^ e))) := if_pos c
        rw [epl] at kk
        refine pk_loop (σ := Hp) (fun n i h' => M_goesPlans_L62 (nI who) (nI p) (nI U) x4 (M_goesPlans f) Q n (nI i) h') (fun i h' => Φ (done ++ ((List.range i).filter (fun e => (wys a w p).testBit e)).flatMap (fun e => plx (ownB (mnA a) who) (wys a w) k (p + 1) (upX X p (2 ^ e)))) h') 24 0 h (by omega) (by simpa using hΦ) (fun n h1 J => ?_) (fun n i h' hi J hk => ?_)
        · unfold M_goesPlans_L62
          exact pk_le 24 24 (fun _ => kk h1 J) (fun c => absurd c (by omega))
        · obtain ⟨g', z'⟩ := h0 _ h' J
          unfold M_goesPlans_L62
          refine pk_le 24 i (fun c => absurd c (by omega)) (fun _ => ⟨pk_in p 8 (by omega), ?_⟩)
          rw [cl p, ways_w z' O hp]
          refine s_isIn (by omega) (by omega) ?_
          rintro J100 rfl
          by_cases b : (wys a w p).testBit i = true
          · rw [if_pos b]
            refine brF (by decide) ?_
            rw [nI_1 p, z_1 i (by omega), z_or]
            refine ih f (p + 1) (U ||| 2 ^ i) (upX X p (2 ^ i)) _ h' _ (by omega) (by omega) (fun q hq => ?_) (fun q hq => ?_) (unX_s hU (Nat.pow_lt_pow_right (by decide) hi) (fun _ _ => trivial)) J (fun h2 P2 => ?_)
            · by_cases d : q = p
              · subst d
                rw [upX_s]
                exact ⟨Nat.ne_of_gt (Nat.two_pow_pos _), fun e he => by rw [tb_pow he]; exact b⟩
              · rw [upX_n d]; exact hX1 q (by omega)
            · rw [upX_n (by omega)]; exact hX2 q (by omega)
            · rintro _ rfl
              rw [nI_1 i]
              refine hk h2 ?_
              rw [pre_s, if_pos b, List.flatMap_append, ← List.append_assoc, List.flatMap_cons, List.flatMap_nil, List.append_nil]
              exact P2
          · rw [if_neg b]
            refine brT rfl ?_
            rintro _ rfl
            rw [nI_1 i]
            refine hk h' ?_
            rw [pre_s, if_neg b, List.append_nil]; exact J
      · have epl : plx (ownB (mnA a) who) (wys a w) (k + 1) p X = plx (ownB (mnA a) who) (wys a w) k (p + 1) X := if_neg c
        rw [epl] at kk
        rw [cl p, ways_w z O hp, nI_1 p, z_or]
        have xp : X p = wys a w p := hX2 p (Nat.le_refl p)
        have us := unX_s hU wl.1 (fun _ _ => trivial)
        rw [← xp, upX_id] at us
        rw [← xp]
        refine ih f (p + 1) (U ||| X p) X done h Q (by omega) (by omega) (fun q hq => ?_) (fun q hq => hX2 q (by omega)) us hΦ kk
        by_cases d : q = p
        · subst d
          rw [xp]; exact ⟨wl.2, fun _ h => h⟩
        · exact hX1 q (by omega)
    have w01 : who = 0 ∨ who = 1 := by omega
    rcases w01 with rfl | rfl
    · exact brF' (by decide) (main 0 rfl)
    · exact brT' rfl (main 1 rfl)
/-! gather -/
def lA (a : Row) (w : Nat) : List Rg := rings (ttA a) (pIA a w) (wlA a w) (nP a)
def StM (a : Row) (w : Nat) (h : Hp) : Prop := (∀ j, gI h 99 j = a j) ∧ WaysM h a w ∧ RgM h (lA a w)
theorem StM_k {a : Row} {w : Nat} {h h1 : Hp} {S : Nat → Nat → Bool} (s : StM a w h) (F : Fp S h h1) (hS : ∀ o k, (114 ≤ o ∧ o ≤ 117) ∨ S o k = false) : StM a w h1 :=
  ⟨fun j => (F.1 99 j ((hS 99 j).resolve_left (by omega))).trans (s.1 j), ways_k F (fun o k h1 h2 => (hS o k).resolve_left (by omega)) s.2.1, RgM_k s.2.2 F (fun o k hh => (hS o k).resolve_left (by omega))⟩
def oGa : Nat → Nat → Bool := fun o _ => decide (114 ≤ o) && decide (o ≤ 117)
theorem oGa_S (o k : Nat) : (114 ≤ o ∧ o ≤ 117) ∨ oGa o k = false := by
  by_cases c : 114 ≤ o ∧ o ≤ 117
  · exact Or.inl c
  · refine Or.inr ?_
    simp only [oGa, Bool.and_eq_false_iff, decide_eq_false_iff_not]; omega
theorem scM_Ga (o k : Nat) (h : scM o k = false) : oGa o k = false := by
  simp only [scM, Bool.or_eq_false_iff, Bool.and_eq_false_iff, decide_eq_false_iff_not] at h
  simp only [oGa, Bool.and_eq_false_iff, decide_eq_false_iff_not]; omega
theorem oGa_1 {x : Nat} (hx : 114 ≤ x ∧ x ≤ 117) (o k : Nat) (h : oGa o k = false) : (o == x) = false := by
  simp only [oGa, Bool.and_eq_false_iff, decide_eq_false_iff_not] at h
  rw [beq_eq_false_iff_ne]; omega
def GaP (a : Row) (w : Nat) (done : List (Nat → Nat)) (h : Hp) : Prop := ∀ p, p < nP a → (done = [] ∧ gI h 115 p = -1) ∨ (done ≠ [] ∧ ∃ j R, gI h 115 p = nI j ∧ (lA a w)[j]? = some R ∧ (∀ X, X ∈ done → svX a w 1 X p ≤ mR R) ∧ ∃ X, X ∈ done ∧ svX a w 1 X p = mR R)
theorem m_gathers {a : Row} {w : Nat} {h0 : Hp} {Q : Hp → Prop} {done : List (Nat → Nat)} {X : Nat → Nat} (O : LandOK a) (s0 : StM a w h0) (g0 : GaP a w done h0) (sec : SecR h0 a w 1 X) (k : ∀ h1, Fp (fun o _ => o == 115) h0 h1 → GaP a w (done ++ [X]) h1 → Q h1) : M_gathers h0 Q := by
  have h8 := O.1.2.1
  have ok := RgOK_A O w
  have ln := ok.1
  unfold M_gathers
  refine pk_loop (σ := Hp) (fun n i h => M_gathers_L2 Q n (nI i) h) (fun i h => Fp (fun o _ => o == 115) h0 h ∧ (∀ p, i ≤ p → gI h 115 p = gI h0 115 p) ∧ ∀ p, p < i → ∃ j R, gI h 115 p = nI j ∧ (lA a w)[j]? = some R ∧ (∀ Y, Y ∈ done ++ [X] → svX a w 1 Y p ≤ mR R) ∧ ∃ Y, Y ∈ done ++ [X] ∧ svX a w 1 Y p = mR R) (nP a) 0 h0 (by omega) ⟨Fp.rf _ _, fun _ _ => rfl, fun p hp => absurd hp (by omega)⟩ (fun n h1 J => ?_) (fun n i h hi J hk => ?_)
  · unfold M_gathers_L2
    rw [J.1.1 99 1 rfl, s0.1, O.1.2.2]
    exact pk_le (nP a) (nP a) (fun _ => k h1 J.1 (fun p hp => Or.inr ⟨by simp, J.2.2 p hp⟩)) (fun c => absurd c (by omega))
  · obtain ⟨F, j1, j2⟩ := J
    have r := RgM_k s0.2.2 F (fun o k hh => by rw [beq_eq_false_iff_ne]; omega)
    obtain ⟨jx, Rx, ex, hx, ms⟩ := sec i hi
    have ms : mR Rx = svX a w 1 X i := ms
    have e117 : gI h 117 i = nI jx := (F.1 117 i rfl).trans ex
    have e115 : gI h 115 i = gI h0 115 i := j1 i (Nat.le_refl i)
    have Xin : X ∈ done ++ [X] := List.mem_append_right _ List.mem_cons_self
    unfold M_gathers_L2
    rw [F.1 99 1 rfl, s0.1, O.1.2.2]
    refine pk_le (nP a) i (fun c => absurd c (by omega)) (fun _ => ⟨pk_in i 8 (by omega), ?_⟩)
    rintro J53 rfl J41 rfl
    rw [cl i]
    have take : (∀ Y, Y ∈ done → svX a w 1 Y i ≤ mR Rx) → (vp_in (nI i) 8 ∧ vp_in (nI i) 8 ∧ ∀ h4 : Hp, h4 = sI h 115 i (gI h 117 i) → ∀ v2 : Int32, v2 = (nI i + 1) → M_gathers_L2 Q n v2 h4) := by
      intro le
      refine ⟨pk_in i 8 (by omega), pk_in i 8 (by omega), ?_⟩
      rw [e117]
      rintro _ rfl _ rfl
      rw [nI_1 i]
      refine hk _ ⟨Fp.sI F rfl, fun p hp => by rw [sI_k (by omega)]; exact j1 p (by omega), fun p hp => ?_⟩
      by_cases c : p = i
      · subst c
        refine ⟨jx, Rx, by rw [sI_s], hx, fun Y hY => ?_, X, Xin, ms.symm⟩
        rcases List.mem_append.mp hY with m | m
        · exact le Y m
        · rw [List.mem_singleton.mp m]; omega
      · rw [sI_k c]; exact j2 p (by omega)
    rw [e115]
    rcases g0 i hi with ⟨dn, e1⟩ | ⟨dn, j, R, e1, hR, all, Y0, y1, y2⟩
    · rw [e1]
      exact brT rfl (take (fun Y hY => by rw [dn] at hY; cases hY))
    · have jl := (List.getElem?_eq_some_iff.mp hR).1
      have jn : ¬ nI j = -1 := fun e => by
        have := congrArg Int32.toInt e
        have l2 : (lA a w).length ≤ 1024 := ln
        rw [nI_toInt (by omega)] at this
        have h3 : (-1 : Int32).toInt = -1 := by decide
        omega
      rw [e1]
      refine brF jn ⟨pk_in i 8 (by omega), pk_in i 8 (by omega), ?_⟩
      rw [e117]
      refine m_isLess r ok hR hx (fun c => brF (by decide) (take (fun Y hY => by have := all Y hY; omega))) (fun c => brT rfl ?_)
      rintro _ rfl
      rw [nI_1 i]
      refine hk h ⟨F, fun p hp => j1 p (by omega), fun p hp => ?_⟩
      by_cases d : p = i
      · subst d
        refine ⟨j, R, by rw [e115, e1], hR, fun Y hY => ?_, Y0, List.mem_append_left _ y1, y2⟩
        rcases List.mem_append.mp hY with m | m
        · exact all Y m
        · rw [List.mem_singleton.mp m]; omega
      · exact j2 p (by omega)
/-! count -/
def Wth (a : Row) (w : Nat) (val : Nat → Int) (h : Hp) : Prop := ∀ p, p < nP a → ∃ j R, gI h 115 p = nI j ∧ (lA a w)[j]? = some R ∧ mR R = val p
def CoP (a : Row) (w who : Nat) (val : Nat → Int) (done : List (Nat → Nat)) (h : Hp) : Prop := (∀ p, p < nP a → gI h 116 (8 * who + p) = nI (cnX a w who done val p)) ∧ ((gI h 114 who = 0 ∧ ∀ X, X ∈ done → ¬ isBX a w who val X) ∨ ∃ X U, FBX a w who val done X ∧ XOK a w X ∧ UX a X U ∧ gI h 114 who = nI U ∧ U ≠ 0)
def oCo (who : Nat) : Nat → Nat → Bool := fun o k => (o == 116 && decide (8 * who ≤ k) && decide (k < 8 * who + 8)) || (o == 114 && k == who)
theorem m_countsL {a : Row} {w who U : Nat} {h0 : Hp} {K : Int32 → Hp → Prop} {done : List (Nat → Nat)} {X : Nat → Nat} {val : Nat → Int} (O : LandOK a) (hwho : who < 2) (s0 : StM a w h0) (w0 : Wth a w val h0) (c0 : ∀ p, p < nP a → gI h0 116 (8 * who + p) = nI (cnX a w who done val p)) (sec : SecR h0 a w who X) (kk : ∀ (b : Int32) (h1 : Hp), Fp (fun o k => o == 116 && decide (8 * who ≤ k) && decide (k < 8 * who + 8)) h0 h1 → (∀ p, p < nP a → gI h1 116 (8 * who + p) = nI (cnX a w who (done ++ [X]) val p)) → ((b = 1 ∧ ∀ p, p < nP a → svX a w who X p = val p) ∨ (b = 0 ∧ ¬ ∀ p, p < nP a → svX a w who X p = val p)) → K b h1) : ∃ n13, M_counts_L5 (nI who) (nI U) K n13 1 0 h0 := by
  have h8 := O.1.2.1
  have ok := RgOK_A O w
  have e8 : ∀ i, (8 : Int32) * nI who + nI i = nI (8 * who + i) := fun i => by rw [show (8 : Int32) = nI 8 from rfl, pk_mul, nI_add]
  refine pk_loop (σ := Int32 × Hp) (fun n i t => M_counts_L5 (nI who) (nI U) K n t.1 (nI i) t.2) (fun i t => Fp (fun o k => o == 116 && decide (8 * who ≤ k) && decide (k < 8 * who + 8)) h0 t.2 ∧ (∀ p, i ≤ p → p < 8 → gI t.2 116 (8 * who + p) = gI h0 116 (8 * who + p)) ∧ (∀ p, p < i → gI t.2 116 (8 * who + p) = nI (cnX a w who (done ++ [X]) val p)) ∧ ((t.1 = 1 ∧ ∀ p, p < i → svX a w who X p = val p) ∨ (t.1 = 0 ∧ ¬ ∀ p, p < i → svX a w who X p = val p))) (nP a) 0 (1, h0) (by omega) ⟨Fp.rf _ _, fun _ _ _ => rfl, fun p hp => absurd hp (by omega), Or.inl ⟨rfl, fun p hp => absurd hp (by omega)⟩⟩ (fun n t J => ?_) (fun n i t hi J hk => ?_)
  · obtain ⟨b, h1⟩ := t
    obtain ⟨F, j1, j2, j3⟩ := J
    have F : Fp (fun o k => o == 116 && decide (8 * who ≤ k) && decide (k < 8 * who + 8)) h0 h1 := F
    show M_counts_L5 (nI who) (nI U) K (n + 1) b (nI (nP a)) h1
    unfold M_counts_L5
    rw [F.1 99 1 rfl, s0.1, O.1.2.2]
    exact pk_le (nP a) (nP a) (fun _ => kk b h1 F j2 j3) (fun c => absurd c (by omega))
  · obtain ⟨b, h⟩ := t
    obtain ⟨F, j1, j2, j3⟩ := J
    have F : Fp (fun o k => o == 116 && decide (8 * who ≤ k) && decide (k < 8 * who + 8)) h0 h := F
    have r := RgM_k s0.2.2 F (fun o k hh => by simp only [Bool.and_eq_false_iff, beq_eq_false_iff_ne]; omega)
    obtain ⟨jx, Rx, ex, hx, ms⟩ := sec i hi
    have ms : mR Rx = svX a w who X i := ms
    obtain ⟨jw, Rw, ew, hw', mw⟩ := w0 i hi
    have e117 : gI h 117 i = nI jx := (F.1 117 i rfl).trans ex
    have e115 : gI h 115 i = nI jw := (F.1 115 i rfl).trans ew
    have e116 : gI h 116 (8 * who + i) = nI (cnX a w who done val i) := (j1 i (Nat.le_refl i) (by omega)).trans (c0 i hi)
    have in16 : vp_in (nI (8 * who + i)) 16 := pk_in (8 * who + i) 16 (by omega)
    have bB : b = 0 ∨ b = 1 := j3.elim (fun z => Or.inr z.1) (fun z => Or.inl z.1)
    show M_counts_L5 (nI who) (nI U) K (n + 1) b (nI i) h
    unfold M_counts_L5
    rw [F.1 99 1 rfl, s0.1, O.1.2.2, e8 i]
    refine pk_le (nP a) i (fun c => absurd c (by omega)) (fun _ => ⟨pk_in i 8 (by omega), pk_in i 8 (by omega), ?_⟩)
    have t116 : (fun (o k : Nat) => o == 116 && decide (8 * who ≤ k) && decide (k < 8 * who + 8)) 116 (8 * who + i) = true := by
      show (116 == 116 && decide (8 * who ≤ 8 * who + i) && decide (8 * who + i < 8 * who + 8)) = true
      simp only [beq_self_eq_true, Bool.true_and, Bool.and_eq_true, decide_eq_true_iff]; omega
    have step : ∀ s3 : Int32, ((s3 = 1 ∧ svX a w who X i = val i) ∨ (s3 = 0 ∧ ¬ svX a w who X i = val i)) → ∀ s5 : Int32, s5 = s3 → (vp_in (nI (8 * who + i)) 16 ∧ ∀ h7 : Hp, h7 = sI h 116 (8 * who + i) ((gI h 116 (8 * who + i)) + s5) → ∀ v8 : Int32, v8 = (b &&& s3) → ∀ v9 : Int32, v9 = (nI i + 1) → M_counts_L5 (nI who) (nI U) K n v8 v9 h7) := by
      intro s3 hs3 s5 e5
      rw [e5]
      refine ⟨in16, ?_⟩
      rintro _ rfl _ rfl _ rfl
      rw [nI_1 i, e116]
      refine hk (b &&& s3, _) ⟨Fp.sI F t116, fun p hp hp8 => ?_, fun p hp => ?_, ?_⟩
      · show gI (sI h 116 (8 * who + i) _) 116 (8 * who + p) = _
        rw [sI_k (by omega)]; exact j1 p (by omega) hp8
      · show gI (sI h 116 (8 * who + i) _) 116 (8 * who + p) = _
        by_cases c : p = i
        · subst c
          rw [sI_s, cn_s]
          rcases hs3 with ⟨rfl, e⟩ | ⟨rfl, e⟩
          · rw [if_pos e, nI_1]
          · rw [if_neg e, Int32.add_zero]; rfl
        · rw [sI_k (by omega)]; exact j2 p (by omega)
      · show (b &&& s3 = 1 ∧ _) ∨ (b &&& s3 = 0 ∧ _)
        rcases j3 with ⟨e1, bb⟩ | ⟨e1, bb⟩
        · have e1 : b = 1 := e1
          subst e1
          rcases hs3 with ⟨rfl, e⟩ | ⟨rfl, e⟩
          · refine Or.inl ⟨by decide, fun p hp => ?_⟩
            by_cases c : p = i
            · subst c; exact e
            · exact bb p (by omega)
          · exact Or.inr ⟨by decide, fun z => e (z i (by omega))⟩
        · have e1 : b = 0 := e1
          subst e1
          refine Or.inr ⟨by rcases hs3 with ⟨rfl, _⟩ | ⟨rfl, _⟩ <;> decide, fun z => bb (fun p hp => z p (by omega))⟩
    rw [cl i, e115, e117, cl (8 * who + i)]
    refine m_isLess r ok hw' hx (fun c => ?_) (fun c => ?_)
    · rintro J63 rfl J62 rfl
      refine brF' (by decide) ⟨in16, ?_⟩
      rintro J88 rfl
      exact brT rfl (step 0 (Or.inr ⟨rfl, by omega⟩) 0 rfl)
    · rintro J63 rfl J62 rfl
      refine brT' rfl ⟨pk_in i 8 (by omega), pk_in i 8 (by omega), ?_⟩
      rw [e117, e115]
      refine m_isLess r ok hx hw' (fun c2 => brF' (by decide) ⟨in16, ?_⟩) (fun c2 => brT' rfl ⟨in16, ?_⟩)
      · rintro J88 rfl
        exact brT rfl (step 0 (Or.inr ⟨rfl, by omega⟩) 0 rfl)
      · rintro J88 rfl
        exact brF (by decide) (step 1 (Or.inl ⟨rfl, by omega⟩) 1 rfl)
theorem m_counts {a : Row} {w who U : Nat} {h0 : Hp} {Q : Hp → Prop} {done : List (Nat → Nat)} {X : Nat → Nat} {val : Nat → Int} (O : LandOK a) (hwho : who < 2) (hX : XOK a w X) (hU : UX a X U) (s0 : StM a w h0) (w0 : Wth a w val h0) (c0 : CoP a w who val done h0) (sec : SecR h0 a w who X) (k : ∀ h1, Fp (oCo who) h0 h1 → CoP a w who val (done ++ [X]) h1 → Q h1) : M_counts (nI who) (nI U) h0 Q := by
  have h8 := O.1.2.1
  unfold M_counts
  refine m_countsL O hwho s0 w0 c0.1 sec (fun b h1 F cnt j3 => ?_)
  have F' : Fp (oCo who) h0 h1 := F.mo (fun o k h => by
    simp only [oCo, Bool.or_eq_false_iff] at h; exact h.1)
  have e114 : gI h1 114 who = gI h0 114 who := F.1 114 who rfl
  rw [cl who]
  have old : (∃ Y V, FBX a w who val done Y ∧ XOK a w Y ∧ UX a Y V ∧ gI h0 114 who = nI V ∧ V ≠ 0) → Q h1 := by
    rintro ⟨Y, V, ⟨l1, l2, el, b1, b2⟩, y1, y2, y3, y4⟩
    exact k h1 F' ⟨cnt, Or.inr ⟨Y, V, ⟨l1, l2 ++ [X], by rw [el, List.append_assoc]; rfl, b1, b2⟩, y1, y2, e114.trans y3, y4⟩⟩
  rcases j3 with ⟨e1, bb⟩ | ⟨e1, bb⟩
  · subst e1
    refine brF (by decide) ⟨pk_in who 2 hwho, ?_⟩
    rw [e114]
    rcases c0.2 with ⟨z, nb⟩ | ⟨Y, V, fb, y1, y2, y3, y4⟩
    · refine ⟨fun q => absurd z q, fun _ => ⟨pk_in who 2 hwho, ?_⟩⟩
      rintro _ rfl
      have t114 : oCo who 114 who = true := by simp [oCo]
      refine k _ (Fp.sI F' t114) ⟨fun p hp => by rw [sI_o (by decide)]; exact cnt p hp, Or.inr ⟨X, U, ⟨done, [], rfl, bb, nb⟩, hX, hU, by rw [sI_s], fun u0 => ?_⟩⟩
      obtain ⟨j, _, hb⟩ := tb_ex (hX 0 O.1.1).1 (X_lt O hX O.1.1)
      have := (hU.2 j).mpr ⟨0, O.1.1, hb⟩
      rw [u0, Nat.zero_testBit] at this; cases this
    · have vn : ¬ gI h0 114 who = 0 := by
        rw [y3]
        have := y2.1
        exact nI_ne0 (by omega) (by omega)
      exact ⟨fun _ => old ⟨Y, V, fb, y1, y2, y3, y4⟩, fun q => absurd q vn⟩
  · subst e1
    refine brT rfl ?_
    rcases c0.2 with ⟨z, nb⟩ | o
    · refine k h1 F' ⟨cnt, Or.inl ⟨e114.trans z, fun Y hY hb => ?_⟩⟩
      rcases List.mem_append.mp hY with m | m
      · exact nb Y m hb
      · rw [List.mem_singleton.mp m] at hb; exact bb hb
    · exact old o
