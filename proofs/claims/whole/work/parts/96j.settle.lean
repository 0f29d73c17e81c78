/-! the land settled -/
def xS : Nat → Nat → Bool := fun o k => sF o k || o == 14 || o == 15 || o == 16 || o == 17
theorem xS_s (o k : Nat) (h : xS o k = false) : sF o k = false := by
  simp only [xS, Bool.or_eq_false_iff] at h
  exact h.1.1.1.1
def SA (h : Hp) (a : Row) : Prop := ((gI h 2 4 = 0 ∧ a 1 = 1 ∧ a 3 = 1) ∨ (gI h 2 4 = a 1 ∧ ¬ gI h 2 4 = 0 ∧ gI h 2 5 = a 3)) ∧ gI h 2 6 = a 2 ∧ gI h 2 7 = a 0 ∧ (∀ r, r < nR a → gI h 10 r = a (10 + r) ∧ gI h 11 r = a (26 + r) ∧ gI h 12 r = a (42 + r)) ∧ LwC h 4 a 0 ∧ LwC h 7 a 1
theorem st_ws {h : Hp} {a : Row} {r : Nat} {K : Hp → Prop} (hr : r < 16) (e0 : gI h 12 r = a (42 + r)) (e1 : gI h 10 r = a (10 + r)) (e2 : gI h 11 r = a (26 + r)) (L0 : LwC h 4 a 0) (L1 : LwC h 7 a 1) (b18 : ∀ w, w < 10 → gI h 18 w = nI (bset (opnA a w) r)) (k : ∀ h1, Fq sF h h1 → (∀ w, w < 10 → gI h1 18 w = nI (bset (opnA a w) (r + 1))) → (∀ w, w < 10 → gI h1 19 (w * 16 + r) = payA a w r) → (∀ w i, i < r → gI h1 19 (w * 16 + i) = gI h 19 (w * 16 + i)) → K h1) : ∃ n18, Reader_settle_L142 (nI r) K n18 0 h := by
  refine pk_loop (σ := Hp) (fun n' w g => Reader_settle_L142 (nI r) K n' (nI w) g) (fun w g => Fq sF h g ∧ (∀ v, v < 10 → gI g 18 v = nI (bset (opnA a v) (if v < w then r + 1 else r))) ∧ (∀ v, v < w → gI g 19 (v * 16 + r) = payA a v r) ∧ ∀ v i, i < r → gI g 19 (v * 16 + i) = gI h 19 (v * 16 + i)) 10 0 h (by omega) ⟨Fq.rf _ _, fun v hv => by rw [if_neg (by omega)]; exact b18 v hv, fun v hv => absurd hv (by omega), fun _ _ _ => rfl⟩ (fun n' g J => ?_) (fun n' w g hw J hk => ?_)
  · unfold Reader_settle_L142
    refine pk_le 10 10 (fun _ => k g J.1 (fun v hv => ?_) J.2.2.1 J.2.2.2) (fun z => absurd z (by omega))
    have := J.2.1 v hv
    rw [if_pos hv] at this
    exact this
  · obtain ⟨F, b1, b2, b3⟩ := J
    unfold Reader_settle_L142
    refine pk_le 10 w (fun z => absurd z (by omega)) (fun _ => st_road (a := a) hr hw ((F.1.1 12 r rfl).trans e0) ((F.1.1 10 r rfl).trans e1) ((F.1.1 11 r rfl).trans e2) (LwC_k L0 (F.1.1 4 3 rfl) (fun i => F.1.1 5 i rfl)) (LwC_k L1 (F.1.1 7 3 rfl) (fun i => F.1.1 8 i rfl)) (fun h1 F1 p19 p18 => ?_))
    rintro _ rfl
    rw [nI_1 w]
    refine hk h1 ⟨F.tr F1, fun v hv => ?_, fun v hv => ?_, fun v i hi => ?_⟩
    · rw [p18 v]
      by_cases c : v = w
      · subst c
        have bv := b1 v hv
        rw [if_neg (Nat.lt_irrefl v)] at bv
        rw [if_pos rfl, if_pos (show v < v + 1 by omega), bv]
        by_cases o : opnA a v r = true
        · rw [if_pos o, z_or, ← bset_or, if_pos o]
        · rw [if_neg o, bset_no (by simpa using o)]
      · rw [if_neg c, b1 v hv]
        by_cases d : v < w
        · rw [if_pos d, if_pos (by omega)]
        · rw [if_neg d, if_neg (by omega)]
    · rw [p19 (v * 16 + r)]
      by_cases c : v = w
      · rw [c, if_pos rfl]
      · rw [if_neg (by omega)]; exact b2 v (by omega)
    · rw [p19 (v * 16 + i), if_neg (by omega)]; exact b3 v i hi
theorem c_settle {h : Hp} {a : Row} {Q : Hp → Prop} (O : LandOK a) (A : SA h a) (k : ∀ h1, Fq xS h h1 → Lnd h1 a → Q h1) : Reader_settle h Q := by
  obtain ⟨⟨P1, P8, eP⟩, ⟨R16, eR⟩, FT, -⟩ := O
  obtain ⟨A1, A2, A7, A3, L0, L1⟩ := A
  have al17 : alen 17 = 8 := by decide
  have al18 : alen 18 = 10 := by decide
  have main : ∀ h10, Fq xS h h10 → gI h10 14 0 = a 1 → gI h10 14 1 = a 3 → gI h10 14 2 = a 2 → gI h10 14 3 = a 0 → (∀ p, p < 8 → gI h10 17 p = 0) → (∀ w, w < 10 → gI h10 18 w = 0) → ∃ n22, Reader_settle_L72 Q n22 0 h10 := by
    intro h10 F10 q0 q1 q2 q3 f17 f18
    refine pk_loop (σ := Hp) (fun n' r g => Reader_settle_L72 Q n' (nI r) g) (fun r g => Fq xS h g ∧ (gI g 14 0 = a 1 ∧ gI g 14 1 = a 3 ∧ gI g 14 2 = a 2 ∧ gI g 14 3 = a 0) ∧ (∀ i, i < r → gI g 15 i = a (10 + i) ∧ gI g 16 i = a (26 + i)) ∧ (∀ p, p < 8 → gI g 17 p = nI (bset (fun i => fromA a i == p) r)) ∧ (∀ w, w < 10 → gI g 18 w = nI (bset (opnA a w) r)) ∧ ∀ w i, w < 10 → i < r → gI g 19 (w * 16 + i) = payA a w i) (nR a) 0 h10 (by omega) ⟨F10, ⟨q0, q1, q2, q3⟩, fun i hi => absurd hi (by omega), fun p hp => f17 p hp, fun w hw => f18 w hw, fun w i _ hi => absurd hi (by omega)⟩ (fun n' g J => ?_) (fun n' r g hr J hk => ?_)
    · obtain ⟨F, ⟨j0, j1, j2, j3⟩, j4, j5, j6, j7⟩ := J
      unfold Reader_settle_L72
      rw [F.1.1 2 6 rfl, A2, eR]
      refine pk_le (nR a) (nR a) (fun _ => k g F ⟨j0, j1, j2, j3, j4, j5, j6, fun w r hw hr => ?_⟩) (fun z => absurd z (by omega))
      rw [Nat.mul_comm]; exact j7 w r hw hr
    · obtain ⟨F, ⟨j0, j1, j2, j3⟩, j4, j5, j6, j7⟩ := J
      obtain ⟨t1, t2, t3⟩ := A3 r hr
      obtain ⟨⟨u1, u2⟩, -⟩ := FT r hr
      unfold Reader_settle_L72
      rw [F.1.1 2 6 rfl, A2, eR]
      refine pk_le (nR a) r (fun z => absurd z (by omega)) (fun _ => pk_le 16 r (fun z => absurd z (by omega)) (fun _ => ⟨pk_in r 16 (by omega), pk_in r 16 (by omega), ?_⟩))
      rw [cl r]
      intro h11 g11
      refine ⟨pk_in r 16 (by omega), pk_in r 16 (by omega), ?_⟩
      intro h12 g12
      have F12 : Fq (fun o _ => o == 15 || o == 16) g h12 := by
        rw [g12, g11]
        exact Fq.sI (Fq.sI (Fq.rf _ _) rfl) rfl
      have e10 : gI h12 10 r = nI (fromA a r) := by rw [F12.1.1 10 r rfl, F.1.1 10 r rfl, t1]; exact u1
      have e14 : gI h12 14 0 = nI (nP a) := by rw [F12.1.1 14 0 rfl, j0]; exact eP
      have s15 : gI h12 15 r = a (10 + r) := by rw [g12, sI_o (by decide), g11, sI_s, F.1.1 10 r rfl, t1]
      have s16 : gI h12 16 r = a (26 + r) := by rw [g12, sI_s, g11, sI_o (by decide), F.1.1 11 r rfl, t2]
      have o15 : ∀ i, i < r → gI h12 15 i = a (10 + i) ∧ gI h12 16 i = a (26 + i) := fun i hi => by
        refine ⟨?_, ?_⟩
        · rw [g12, sI_o (by decide), g11, sI_k (by omega)]; exact (j4 i hi).1
        · rw [g12, sI_k (by omega), g11, sI_o (by decide)]; exact (j4 i hi).2
      rw [e10]
      refine ⟨pk_in r 16 (by omega), ?_⟩
      unfold Land_hasPlace
      rw [e14]
      refine brF (nI_pos (by omega)) (pk_le (nP a) (fromA a r) (fun z => absurd z (by omega)) (fun _ => pk_le 8 (fromA a r) (fun z => absurd z (by omega)) (fun _ => ?_)))
      rintro J140 rfl
      refine brF (by decide) ⟨pk_in r 16 (by omega), ?_⟩
      rw [e10]
      refine ⟨pk_in (fromA a r) 8 (by omega), pk_in (fromA a r) 8 (by omega), ?_⟩
      rw [cl (fromA a r), z_1 r (by omega)]
      intro h21 g21
      have F21 : Fq (fun o _ => o == 15 || o == 16 || o == 17) g h21 := by
        rw [g21]
        refine Fq.sI (F12.mo (fun o k hh => ?_)) rfl
        simp only [Bool.or_eq_false_iff] at hh ⊢
        exact hh.1
      have FX : Fq xS h h21 := F.tr (F21.mo (fun o k hh => by
        simp only [xS, Bool.or_eq_false_iff] at hh ⊢
        exact ⟨⟨hh.1.1.2, hh.1.2⟩, hh.2⟩))
      refine st_ws (a := a) (by omega) ((FX.1.1 12 r rfl).trans t3) ((FX.1.1 10 r rfl).trans t1) ((FX.1.1 11 r rfl).trans t2) (LwC_k L0 (FX.1.1 4 3 rfl) (fun i => FX.1.1 5 i rfl)) (LwC_k L1 (FX.1.1 7 3 rfl) (fun i => FX.1.1 8 i rfl)) (fun w hw => (F21.1.1 18 w rfl).trans (j6 w hw)) (fun h1 F1 b18 b19 b19' => ?_)
      rintro _ rfl
      rw [nI_1 r]
      refine hk h1 ⟨FX.tr (F1.mo xS_s), ⟨?_, ?_, ?_, ?_⟩, fun i hi => ?_, fun p hp => ?_, b18, fun w i hw hi => ?_⟩
      · rw [F1.1.1 14 0 rfl, F21.1.1 14 0 rfl]; exact j0
      · rw [F1.1.1 14 1 rfl, F21.1.1 14 1 rfl]; exact j1
      · rw [F1.1.1 14 2 rfl, F21.1.1 14 2 rfl]; exact j2
      · rw [F1.1.1 14 3 rfl, F21.1.1 14 3 rfl]; exact j3
      · rw [F1.1.1 15 i rfl, F1.1.1 16 i rfl, g21, sI_o (by decide), sI_o (by decide)]
        by_cases c : i = r
        · subst c; exact ⟨s15, s16⟩
        · exact o15 i (by omega)
      · rw [F1.1.1 17 p rfl, g21]
        by_cases c : p = fromA a r
        · subst c
          rw [sI_s, F12.1.1 17 _ rfl, j5 _ hp, z_or, ← bset_or, if_pos (by simp)]
        · rw [sI_k c, F12.1.1 17 p rfl, j5 p hp, bset_no]
          simp only [beq_eq_false_iff_ne]
          exact fun z => c z.symm
      · by_cases c : i = r
        · subst c; exact b19 w hw
        · rw [b19' w i (by omega), F21.1.1 19 _ rfl]; exact j7 w i hw (by omega)
  have tail : ∀ g : Hp, Fq xS h g → gI g 14 0 = a 1 → gI g 14 1 = a 3 → ∀ h7 : Hp, h7 = sI g 14 2 (gI g 2 6) → ∀ h8 : Hp, h8 = sI h7 14 3 (gI h7 2 7) → J7_fill_53178 17 0 h8 (fun h9 => J7_fill_53178 18 0 h9 (fun h10 => ∃ n22, Reader_settle_L72 Q n22 0 h10)) := by
    intro g Fg z0 z1 h7 g7 h8 g8
    have F8 : Fq xS h h8 := by rw [g8, g7]; exact Fq.sI (Fq.sI Fg rfl) rfl
    have y0 : gI h8 14 0 = a 1 := by rw [g8, sI_k (by decide), g7, sI_k (by decide)]; exact z0
    have y1 : gI h8 14 1 = a 3 := by rw [g8, sI_k (by decide), g7, sI_k (by decide)]; exact z1
    have y2 : gI h8 14 2 = a 2 := by rw [g8, sI_k (by decide), g7, sI_s, Fg.1.1 2 6 rfl]; exact A2
    have y3 : gI h8 14 3 = a 0 := by rw [g8, sI_s, g7, sI_o (by decide), Fg.1.1 2 7 rfl]; exact A7
    refine c_fill al17 (by decide) (fun h9 F9 f17 => c_fill al18 (by decide) (fun h10 F10 f18 => ?_))
    refine main h10 ((F8.tr (F9.mo (fun o k hh => ?_))).tr (F10.mo (fun o k hh => ?_))) ?_ ?_ ?_ ?_ (fun p hp => ?_) f18
    · simp only [xS, Bool.or_eq_false_iff] at hh ⊢
      exact hh.2
    · simp only [xS, sF, Bool.or_eq_false_iff] at hh ⊢
      exact hh.1.1.1.1.1.1.1.2
    · rw [F10.1.1 14 0 rfl, F9.1.1 14 0 rfl]; exact y0
    · rw [F10.1.1 14 1 rfl, F9.1.1 14 1 rfl]; exact y1
    · rw [F10.1.1 14 2 rfl, F9.1.1 14 2 rfl]; exact y2
    · rw [F10.1.1 14 3 rfl, F9.1.1 14 3 rfl]; exact y3
    · rw [F10.1.1 17 p rfl]; exact f17 p hp
  unfold Reader_settle
  rintro J16 rfl
  rcases A1 with ⟨p0, p1, p3⟩ | ⟨p0, p1, p3⟩
  · refine brT' p0 ?_
    intro h3 g3
    rintro J35 rfl
    refine brT' (by rw [g3, sI_o (by decide)]; exact p0) ?_
    intro h6 g6
    refine tail h6 (by rw [g6, g3]; exact Fq.sI (Fq.sI (Fq.rf _ _) rfl) rfl) (by rw [g6, sI_k (by decide), g3, sI_s, p1]) (by rw [g6, sI_s, p3])
  · refine brF' p1 ?_
    intro h3 g3
    rintro J35 rfl
    refine brF' (by rw [g3, sI_o (by decide)]; exact p1) ?_
    intro h6 g6
    refine tail h6 (by rw [g6, g3]; exact Fq.sI (Fq.sI (Fq.rf _ _) rfl) rfl) (by rw [g6, sI_k (by decide), g3, sI_s, p0]) (by rw [g6, sI_s, g3, sI_o (by decide), p3])
