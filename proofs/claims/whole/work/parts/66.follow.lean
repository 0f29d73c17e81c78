/-! going by plan -/
def wpS (a s : Row) (w : Nat) : Nat → Nat := fun p => wayP a w (s (4 + p)) p
def pO (a s : Row) (w t k : Nat) : Nat := gorb (fun _ e => ttA a e) (wpS a s w) k t
def pS (a s : Row) (w t k : Nat) : Int := gsum (fun _ e => ttA a e) (wpS a s w) (fun _ e => (ppA a w e).toInt) k t
theorem pO_s (a s : Row) (w t k : Nat) : pO a s w t (k + 1) = ttA a (wpS a s w (pO a s w t k)) := gorb_s _ _ _ _
theorem pS_s (a s : Row) (w t k : Nat) : pS a s w t (k + 1) = pS a s w t k + (ppA a w (wpS a s w (pO a s w t k))).toInt := gsum_s _ _ _ _ _
theorem pO_lt {a s : Row} {w t : Nat} (O : LandOK a) (ht : t < nP a) : ∀ k, pO a s w t k < nP a
  | 0 => ht
  | k + 1 => by
    have h8 := O.1.2.1
    have := pO_lt (s := s) (w := w) O ht k
    rw [pO_s]
    exact ttA_lt O this (wayP_ok O (by omega) _)
theorem pS_bd (a s : Row) (w t : Nat) : ∀ k : Nat, -(99 * (k : Int)) ≤ pS a s w t k ∧ pS a s w t k ≤ 99 * k
  | 0 => by show -(99 * ((0 : Nat) : Int)) ≤ 0 ∧ (0 : Int) ≤ 99 * ((0 : Nat) : Int); omega
  | k + 1 => by
    have := pS_bd a s w t k
    have := ppA_bd a w (wpS a s w (pO a s w t k))
    rw [pS_s]; omega
/-- the way in, the round -/
def GoI (a s : Row) (w t n0 b : Nat) : Prop := n0 ≤ 8 ∧ b < n0 ∧ pO a s w t b = pO a s w t n0 ∧ ∀ i j, i < j → j < n0 → pO a s w t i ≠ pO a s w t j
theorem GoI_ex {a s : Row} {w t : Nat} (O : LandOK a) (ht : t < nP a) : ∃ n0 b, GoI a s w t n0 b := by
  have h8 := O.1.2.1
  obtain ⟨i, j, hij, hj, he⟩ := php 8 (fun k => pO a s w t k) (fun k _ => by have := pO_lt (s := s) (w := w) O ht k; omega)
  obtain ⟨n0, ⟨b, hb, e⟩, hl⟩ := pk_least (fun n => ∃ b, b < n ∧ pO a s w t b = pO a s w t n) ⟨j, i, hij, he⟩
  refine ⟨n0, b, ?_, hb, e, fun x y hxy hy q => hl y hy ⟨x, hxy, q⟩⟩
  rcases Nat.lt_or_ge j n0 with q | q
  · exact absurd ⟨i, hij, he⟩ (hl j q)
  · omega
def oGo : Nat → Nat → Bool := fun o k => (decide (87 ≤ o) && decide (o ≤ 91)) && !(o == 90 && k == 0)
theorem oGo_D (o k : Nat) (h : scD o k = false) : oGo o k = false := by
  simp only [oGo, Bool.and_eq_false_iff]
  simp only [scD, scC, Bool.and_eq_false_iff, Bool.or_eq_false_iff, decide_eq_false_iff_not] at h
  rcases h with h | h
  · left
    simp only [decide_eq_false_iff_not]
    omega
  · exact Or.inr h
def GoC (h : Hp) (a s : Row) (w t n0 b : Nat) : Prop := gI h 87 4 = nI b ∧ gI h 87 5 = nI (n0 - b) ∧ (∀ i, i < n0 → gI h 88 i = nI (pO a s w t i) ∧ gI h 89 i = nI (tw (wpS a s w (pO a s w t i)))) ∧ ∀ i, i ≤ n0 → (gI h 90 i).toInt = pS a s w t i
theorem c_follow {h : Hp} {Q : Hp → Prop} {a s : Row} {B : Int} {w t n0 b : Nat} (L : Lnd h a) (O : LandOK a) (R : StdR h 20 21 s) (sO : StdOK a s B) (ht : t < nP a) (et : s 0 = nI t) (hw : w < 10) (ew : s 3 = nI w) (G : GoI a s w t n0 b) (h90 : gI h 90 0 = 0) (k : ∀ h1, Fp oGo h h1 → GoC h1 a s w t n0 b → Q h1) : Going_follow 20 h Q := by
  obtain ⟨n8, bn, eb, inj⟩ := G
  have h8 := O.1.2.1
  unfold Going_follow
  refine j_fill (n := 8) (by decide) (by decide) (fun h1 f1 z1 => ?_)
  have e0 : gI h1 20 0 = nI t := (f1.1 20 0 rfl).trans (R.1.trans et)
  rw [e0]
  intro v2 hv2
  rw [hv2]
  rintro h3 hh3 h4 hh4
  have F4 : Fp oGo h h4 := by
    rw [hh4, hh3]
    refine Fp.sI (Fp.sI (f1.mo (fun o j q => ?_)) rfl) rfl
    simp only [oGo, Bool.and_eq_false_iff, decide_eq_false_iff_not] at q
    simp only [beq_eq_false_iff_ne]
    rintro rfl
    rcases q with q | q
    · omega
    · simp at q
  refine pk_loop (σ := Hp) (fun n i h5 => Going_follow_L26 20 Q n (nI (pO a s w t i)) (nI i) h5) (fun i h5 => Fp oGo h h5 ∧ (∀ p, p < 8 → gI h5 91 p = -1 ∨ ∃ j, j < i ∧ pO a s w t j = p ∧ gI h5 91 p = nI j) ∧ (∀ j, j < i → gI h5 91 (pO a s w t j) = nI j) ∧ (∀ j, j < i → gI h5 88 j = nI (pO a s w t j) ∧ gI h5 89 j = nI (tw (wpS a s w (pO a s w t j)))) ∧ ∀ j, j ≤ i → (gI h5 90 j).toInt = pS a s w t j) n0 0 h4 (by omega) ⟨F4, fun p hp => Or.inl ?_, fun j hj => absurd hj (by omega), fun j hj => absurd hj (by omega), fun j hj => ?_⟩ (fun n h5 J => ?_) (fun n i h5 hi J hk => ?_)
  · rw [hh4, sI_o (by decide), hh3, sI_o (by decide)]; exact z1 p hp
  · rw [show j = 0 by omega, F4.1 90 0 rfl, h90]; rfl
  · obtain ⟨F5, g1, g2, g3, g4⟩ := J
    have hp := pO_lt (s := s) (w := w) O ht n0
    unfold Going_follow_L26
    refine pk_lt 8 n0 (fun q => absurd q (by omega)) (fun _ => brF (nI_pos (by omega)) (pk_le 8 (pO a s w t n0) (fun q => absurd q (by omega)) (fun _ => ⟨pk_in _ 8 (by omega), ?_⟩) (hb := by omega)))
    rw [cl (pO a s w t n0), ← eb, g2 b bn]
    refine brF (fun q => ?_) ⟨pk_in (pO a s w t b) 8 (by have := pO_lt (s := s) (w := w) O ht b; omega), ?_⟩
    · have := congrArg Int32.toInt q
      rw [nI_toInt (by omega)] at this
      have h3 : (-1 : Int32).toInt = -1 := by decide
      omega
    · rintro _ rfl _ rfl
      rw [sI_s, pk_sub (by omega)]
      refine k _ (Fp.sI (Fp.sI F5 rfl) rfl) ⟨by rw [sI_k (by decide), sI_s], sI_s _ _ _ _, fun j hj => ?_, fun j hj => ?_⟩
      · rw [sI_o (by decide), sI_o (by decide), sI_o (by decide), sI_o (by decide)]; exact g3 j hj
      · rw [sI_o (by decide), sI_o (by decide)]; exact g4 j hj
  · obtain ⟨F5, g1, g2, g3, g4⟩ := J
    have hp := pO_lt (s := s) (w := w) O ht i
    have lo : ∀ o j, o < 73 → gI h5 o j = gI h o j := fun o j ho => F5.1 o j (by
      have a1 : decide (87 ≤ o) = false := by simp; omega
      simp only [oGo, a1, Bool.false_and])
    have new : gI h5 91 (pO a s w t i) = -1 := by
      rcases g1 _ (show pO a s w t i < 8 by omega) with q | ⟨j, j1, j2, _⟩
      · exact q
      · exact absurd j2 (inj j i j1 hi)
    unfold Going_follow_L26
    refine pk_lt 8 i (fun q => absurd q (by omega)) (fun _ => brF (nI_pos (by omega)) (pk_le 8 (pO a s w t i) (fun q => absurd q (by omega)) (fun _ => ⟨pk_in _ 8 (by omega), ?_⟩) (hb := by omega)))
    rw [cl (pO a s w t i), new]
    refine brT rfl ⟨pk_in _ 8 (by omega), ?_⟩
    rintro h6 hh6
    refine ⟨pk_in i 9 (by omega), ?_⟩
    rw [cl i]
    rintro h7 hh7
    have F7 : Fp oGo h h7 := by rw [hh7, hh6]; exact Fp.sI (Fp.sI F5 rfl) rfl
    have lo7 : ∀ o j, o < 73 → gI h7 o j = gI h o j := fun o j ho => by rw [hh7, sI_o (by omega), hh6, sI_o (by omega)]; exact lo o j ho
    have L7 : Lnd h7 a := Lnd_k L (fun o j _ h2 => lo7 o j (by omega))
    have R7 : StdR h7 20 21 s := StdR_k R (fun y j hy => lo7 y j (by omega)) (F7.2 20 1 rfl)
    have we := wayP_ok O (w := w) (p := pO a s w t i) (by omega) (s (4 + pO a s w t i))
    refine c_wayByPlan L7 O R7 rfS.1 hw ew (by omega) (sO.2.2.1 _ (by omega)) ?_
    refine ⟨pk_in i 9 (by omega), ?_⟩
    rintro h9 hh9
    refine ⟨pk_in i 10 (by omega), pk_in i 9 (by omega), ?_⟩
    have e89 : gI h9 89 i = nI (tw (wayP a w (s (4 + pO a s w t i)) (pO a s w t i))) := by rw [hh9, sI_s]
    have F9 : Fp oGo h h9 := by rw [hh9]; exact Fp.sI F7 rfl
    have lo9 : ∀ o j, o < 73 → gI h9 o j = gI h o j := fun o j ho => by rw [hh9, sI_o (by omega)]; exact lo7 o j ho
    have L9 : Lnd h9 a := Lnd_k L (fun o j _ h2 => lo9 o j (by omega))
    have e3 : gI h9 20 3 = nI w := (lo9 20 3 (by omega)).trans (R.2.2.2.1.trans ew)
    have e90 : (gI h9 90 i).toInt = pS a s w t i := by rw [hh9, sI_o (by decide), hh7, sI_o (by decide), hh6, sI_o (by decide)]; exact g4 i (Nat.le_refl i)
    rw [e89, e3]
    refine c_pay L9 O hw we ?_
    have e1 : nI i + 1 = nI (i + 1) := nI_1 i
    rw [e1]
    refine ⟨pk_in (i + 1) 10 (by omega), ?_⟩
    rw [cl (i + 1)]
    rintro h12 hh12
    have e8912 : gI h12 89 i = nI (tw (wayP a w (s (4 + pO a s w t i)) (pO a s w t i))) := by rw [hh12, sI_o (by decide)]; exact e89
    rw [e8912]
    refine ⟨pk_in i 9 (by omega), ?_⟩
    have L12 : Lnd h12 a := Lnd_k L (fun o j _ h2 => by rw [hh12, sI_o (by omega)]; exact lo9 o j (by omega))
    refine c_tgt L12 O we ?_
    rintro _ rfl
    have ep : ttA a (wayP a w (s (4 + pO a s w t i)) (pO a s w t i)) = pO a s w t (i + 1) := (pO_s a s w t i).symm
    rw [ep]
    refine hk h12 ⟨by rw [hh12]; exact Fp.sI F9 (by simp [oGo]), fun p hp' => ?_, fun j hj => ?_, fun j hj => ?_, fun j hj => ?_⟩
    · rw [hh12, sI_o (by decide), hh9, sI_o (by decide), hh7, sI_o (by decide), hh6]
      by_cases e : p = pO a s w t i
      · right; rw [e, sI_s]; exact ⟨i, by omega, rfl, rfl⟩
      · rw [sI_k e]
        rcases g1 p hp' with q | ⟨j, j1, j2, j3⟩
        · exact Or.inl q
        · exact Or.inr ⟨j, by omega, j2, j3⟩
    · rw [hh12, sI_o (by decide), hh9, sI_o (by decide), hh7, sI_o (by decide), hh6]
      by_cases e : j = i
      · rw [e, sI_s]
      · rw [sI_k (inj j i (by omega) hi)]; exact g2 j (by omega)
    · rw [hh12, sI_o (by decide), sI_o (by decide), hh9]
      by_cases e : j = i
      · subst e
        rw [sI_o (by decide), sI_s, hh7, sI_s]
        exact ⟨rfl, rfl⟩
      · rw [sI_o (by decide), sI_k e, hh7, sI_k e, sI_o (by decide), hh6, sI_o (by decide), sI_o (by decide)]
        exact g3 j (by omega)
    · rw [hh12]
      by_cases e : j = i + 1
      · subst e
        have b1 := pS_bd a s w t i
        have b2 := ppA_bd a w (wayP a w (s (4 + pO a s w t i)) (pO a s w t i))
        rw [sI_s, pS_s]
        show (gI h9 90 i + ppA a w (wayP a w (s (4 + pO a s w t i)) (pO a s w t i))).toInt = _
        rw [i_add (by omega), e90]; rfl
      · rw [sI_k e, hh9, sI_o (by decide), hh7, sI_o (by decide), hh6, sI_o (by decide)]
        exact g4 j (by omega)
def GoM (h : Hp) (a s : Row) (w t n0 b : Nat) : Prop := gI h 98 36 = nI b ∧ gI h 98 37 = nI (n0 - b) ∧ ∀ i, i ≤ n0 → gI h 119 i = nI (pO a s w t i) ∧ (gJ h 120 i).toInt = pS a s w t i
theorem bset_or1 {n q : Nat} (h : n.testBit q = false) (i : Nat) : (n ||| 2 ^ q).testBit i = true ↔ n.testBit i = true ∨ i = q := by
  rw [Nat.testBit_or, Bool.or_eq_true, Nat.testBit_two_pow, decide_eq_true_iff]
  constructor
  · rintro (x | x)
    · exact Or.inl x
    · exact Or.inr x.symm
  · rintro (x | x)
    · exact Or.inl x
    · exact Or.inr x.symm
theorem m_going {h0 : Hp} {Q : Hp → Prop} {a : Row} {B : Int} {w t n0 b : Nat} (O : LandOK a) (h99 : ∀ j, gI h0 99 j = a j) (sO : StdOK a (fun j => a (58 + j)) B) (ht : t < nP a) (et : a 58 = nI t) (hw : w < 10) (ew : a 61 = nI w) (G : GoI a (fun j => a (58 + j)) w t n0 b) (k : ∀ h1, Fp scM h0 h1 → (∀ j, gI h1 99 j = a j) → WaysM h1 a w → GoM h1 a (fun j => a (58 + j)) w t n0 b → Q h1) : M_laysGoing h0 Q := by
  obtain ⟨n8, bn, eb, inj⟩ := G
  have h8 := O.1.2.1
  unfold M_laysGoing
  refine m_ways O h99 ew (fun h1 f1 h991 z1 => ?_)
  rw [h991 58, et]
  intro v2 hv2
  rw [hv2]
  have orbs : ∀ k, pO a (fun j => a (58 + j)) w t k < nP a := pO_lt O ht
  have m_pl : ∀ {h : Hp} {R : Int32 → Hp → Prop} {i : Nat}, (∀ j, gI h 99 j = a j) → WaysM h a w → R (nI (wpS a (fun j => a (58 + j)) w (pO a (fun j => a (58 + j)) w t i))) h → M_planned (nI (pO a (fun j => a (58 + j)) w t i)) h R := fun g z r => by
    have hp := orbs ‹Nat›
    exact m_planned O z.1 hp (show gI _ 99 (62 + _) = a (58 + (4 + _)) by rw [g]; congr 1; omega) (sO.2.2.1 _ (by omega)) r
  refine pk_loop (σ := Int32 × Int64 × Hp) (fun n i s => M_laysGoing_L19 _ n s.1 (nI (pO a (fun j => a (58 + j)) w t i)) s.2.1 (nI i) s.2.2) (fun i s => (∃ sn, sn < 2 ^ 8 ∧ s.1 = nI sn ∧ ∀ p, sn.testBit p = true ↔ ∃ j, j < i ∧ pO a (fun j => a (58 + j)) w t j = p) ∧ s.2.1.toInt = pS a (fun j => a (58 + j)) w t i ∧ Fp scM h0 s.2.2 ∧ (∀ j, gI s.2.2 99 j = a j) ∧ WaysM s.2.2 a w ∧ ∀ j, j < i → gI s.2.2 119 j = nI (pO a (fun j => a (58 + j)) w t j) ∧ (gJ s.2.2 120 j).toInt = pS a (fun j => a (58 + j)) w t j) n0 0 (0, 0, h1) (by omega) ⟨⟨0, by decide, rfl, fun p => by simp⟩, rfl, f1, h991, z1, fun j hj => absurd hj (by omega)⟩ (fun n s J => ?_) (fun n i s hi J hk => ?_)
  · obtain ⟨x1, x3, h⟩ := s
    obtain ⟨⟨sn, s8, es, ts⟩, e3, F, g99, z, gg⟩ := J
    have es : x1 = nI sn := es
    have e3 : x3.toInt = _ := e3
    have F : Fp scM h0 h := F
    have g99 : ∀ j, gI h 99 j = a j := g99
    have z : WaysM h a w := z
    have gg : ∀ j, j < n0 → gI h 119 j = _ ∧ (gJ h 120 j).toInt = _ := gg
    have hp := orbs n0
    unfold M_laysGoing_L19
    dsimp only
    rw [es]
    refine s_isIn (by omega) (by omega) ?_
    rw [if_pos ((ts _).mpr ⟨b, bn, eb⟩)]
    refine brF' (by decide) ⟨pk_in n0 9 (by omega), ?_⟩
    rw [cl n0]
    rintro h2 hh2
    refine ⟨pk_in n0 9 (by omega), ?_⟩
    rintro h3 hh3 h4 hh4
    have F4 : Fp scM h0 h4 := by rw [hh4, hh3, hh2]; exact Fp.sI (Fp.sJ (Fp.sI F rfl) rfl) rfl
    have a119 : ∀ j, j ≤ n0 → gI h4 119 j = nI (pO a (fun j => a (58 + j)) w t j) := fun j hj => by
      rw [hh4, sI_o (by decide), hh3]
      show gI h2 119 j = _
      rw [hh2]
      by_cases e : j = n0
      · rw [e, sI_s]
      · rw [sI_k e]; exact (gg j (by omega)).1
    have a120 : ∀ j, j ≤ n0 → (gJ h4 120 j).toInt = pS a (fun j => a (58 + j)) w t j := fun j hj => by
      rw [hh4]
      show (gJ h3 120 j).toInt = _
      rw [hh3]
      by_cases e : j = n0
      · rw [e, sJ_s]; exact e3
      · rw [sJ_k e, hh2]; exact (gg j (by omega)).2
    have a99 : ∀ j, gI h4 99 j = a j := fun j => by rw [hh4, sI_o (by decide), hh3]; show gI h2 99 j = _; rw [hh2, sI_o (by decide)]; exact g99 j
    have a36 : gI h4 98 36 = 0 := by rw [hh4, sI_s]
    have z4 : WaysM h4 a w := WaysM_k z (fun o j h1 h2 => by rw [hh4, sI_o (by omega), hh3, gI_sJ, hh2, sI_o (by omega)])
    refine pk_loop (σ := Hp) (fun n i h => M_laysGoing_L102 (nI (pO a (fun j => a (58 + j)) w t n0)) (nI n0) Q n h) (fun i h => Fp scM h0 h ∧ (∀ o j, ¬ (o = 98 ∧ j = 36) → gI h o j = gI h4 o j) ∧ (∀ o j, gJ h o j = gJ h4 o j) ∧ gI h 98 36 = nI i) b 0 h4 (by omega) ⟨F4, fun _ _ _ => rfl, fun _ _ => rfl, a36⟩ (fun n h5 J => ?_) (fun n i h5 hi J hk => ?_)
    · obtain ⟨F5, q1, q2, q3⟩ := J
      unfold M_laysGoing_L102
      rw [q3]
      refine ⟨pk_in b 9 (by omega), ?_⟩
      rw [cl b, q1 119 b (by omega), a119 b (by omega), eb]
      refine brT rfl ?_
      rintro _ rfl
      rw [pk_sub (by omega)]
      refine k _ (Fp.sI F5 rfl) (fun j => by rw [sI_o (by decide), q1 99 j (by omega)]; exact a99 j) (WaysM_k z4 (fun o j h1 h2 => by rw [sI_o (by omega)]; exact q1 o j (by omega))) ⟨by rw [sI_k (by decide)]; exact q3, sI_s _ _ _ _, fun j hj => ⟨by rw [sI_o (by decide), q1 119 j (by omega)]; exact a119 j hj, ?_⟩⟩
      show (gJ h5 120 j).toInt = _
      rw [q2]; exact a120 j hj
    · obtain ⟨F5, q1, q2, q3⟩ := J
      unfold M_laysGoing_L102
      rw [q3]
      refine ⟨pk_in i 9 (by omega), ?_⟩
      rw [cl i, q1 119 i (by omega), a119 i (by omega)]
      have hpi := orbs i
      refine brF (fun e => ?_) ?_
      · rw [nI_eq (by omega) (by omega)] at e
        exact inj i b hi bn (e.trans eb.symm)
      · rintro _ rfl
        rw [nI_1]
        exact hk _ ⟨Fp.sI F5 rfl, fun o j hn => by rw [gI_sI, if_neg hn]; exact q1 o j hn, q2, sI_s _ _ _ _⟩
  · obtain ⟨x1, x3, h⟩ := s
    obtain ⟨⟨sn, s8, es, ts⟩, e3, F, g99, z, gg⟩ := J
    have es : x1 = nI sn := es
    have e3 : x3.toInt = _ := e3
    have F : Fp scM h0 h := F
    have g99 : ∀ j, gI h 99 j = a j := g99
    have z : WaysM h a w := z
    have gg : ∀ j, j < i → gI h 119 j = _ ∧ (gJ h 120 j).toInt = _ := gg
    have hp := orbs i
    have new : sn.testBit (pO a (fun j => a (58 + j)) w t i) = false := by
      cases hq : sn.testBit (pO a (fun j => a (58 + j)) w t i)
      · rfl
      · obtain ⟨j, j1, j2⟩ := (ts _).mp hq
        exact absurd j2 (inj j i j1 hi)
    unfold M_laysGoing_L19
    dsimp only
    rw [es]
    refine s_isIn (by omega) (by omega) ?_
    rw [new]
    refine brT' rfl ?_
    rw [z_1 _ (by omega), z_or]
    intro v5 hv5
    refine ⟨pk_in i 9 (by omega), ?_⟩
    rw [cl i]
    rintro h6 hh6
    refine ⟨pk_in i 9 (by omega), ?_⟩
    rintro h7 hh7
    rw [nI_1]
    intro v8 hv8
    have g7 : ∀ j, gI h7 99 j = a j := fun j => by rw [hh7]; show gI h6 99 j = _; rw [hh6, sI_o (by decide)]; exact g99 j
    have z7 : WaysM h7 a w := WaysM_k z (fun o j h1 h2 => by rw [hh7]; show gI h6 o j = _; rw [hh6, sI_o (by omega)])
    have we := wayP_ok O (w := w) (p := pO a (fun j => a (58 + j)) w t i) (by omega) (a (58 + (4 + pO a (fun j => a (58 + j)) w t i)))
    have e24 : wpS a (fun j => a (58 + j)) w (pO a (fun j => a (58 + j)) w t i) < 24 := way24 O (by omega) we
    obtain ⟨y1, y2⟩ := ways_e z7 hp we
    refine m_pl g7 z7 ⟨pk_in _ 24 e24, ?_⟩
    rw [cl _ (by omega)]
    intro v11 hv11
    refine m_pl g7 z7 ⟨pk_in _ 24 e24, ?_⟩
    rw [cl _ (by omega)]
    intro v14 hv14
    rw [hv14, show gI h7 106 (wpS a (fun j => a (58 + j)) w (pO a (fun j => a (58 + j)) w t i)) = nI (pO a (fun j => a (58 + j)) w t (i + 1)) from y1.trans (by rw [pO_s]; rfl), hv8, hv5]
    refine hk (nI (sn ||| 2 ^ pO a (fun j => a (58 + j)) w t i), v11, h7) ⟨⟨_, Nat.or_lt_two_pow s8 (Nat.pow_lt_pow_right (by decide) (by omega)), rfl, fun p => ?_⟩, ?_, ?_, g7, z7, fun j hj => ?_⟩
    · rw [bset_or1 new, ts]
      constructor
      · rintro (⟨j, j1, j2⟩ | rfl)
        · exact ⟨j, by omega, j2⟩
        · exact ⟨i, by omega, rfl⟩
      · rintro ⟨j, j1, j2⟩
        by_cases e : j = i
        · subst e; exact Or.inr j2.symm
        · exact Or.inl ⟨j, by omega, j2⟩
    · show v11.toInt = _
      have b1 := pS_bd a (fun j => a (58 + j)) w t i
      have b2 := ppA_bd a w (wpS a (fun j => a (58 + j)) w (pO a (fun j => a (58 + j)) w t i))
      have y2 : gI h7 107 (wpS a (fun j => a (58 + j)) w (pO a (fun j => a (58 + j)) w t i)) = _ := y2
      rw [hv11, y2, pS_s]
      show (x3 + (ppA a w (wpS a (fun j => a (58 + j)) w (pO a (fun j => a (58 + j)) w t i))).toInt64).toInt = _
      rw [l_add (by rw [i_l]; omega), i_l, e3]
    · show Fp scM h0 h7
      rw [hh7, hh6]
      exact Fp.sJ (Fp.sI F rfl) rfl
    · show gI h7 119 j = _ ∧ (gJ h7 120 j).toInt = _
      rw [hh7]
      have q1 : gI (sJ h6 120 i x3) 119 j = gI h6 119 j := rfl
      by_cases e : j = i
      · subst e
        rw [q1, hh6, sI_s, sJ_s]
        exact ⟨rfl, e3⟩
      · rw [q1, hh6, sI_k e, sJ_k e]
        exact gg j (by omega)
