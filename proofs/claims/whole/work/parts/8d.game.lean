/-! worth, wins, atLeast, best, plans -/
theorem fst_ex {α : Type} {P : α → Prop} : ∀ {l : List α}, (∃ x, x ∈ l ∧ P x) → ∃ l1 x l2, l = l1 ++ x :: l2 ∧ P x ∧ ∀ z, z ∈ l1 → ¬ P z
  | [], h => by obtain ⟨x, hx, _⟩ := h; cases hx
  | y :: l, h => by
    by_cases c : P y
    · exact ⟨[], y, l, rfl, c, fun z hz => by cases hz⟩
    · obtain ⟨x, hx, px⟩ := h
      have hx' : x ∈ l := (List.mem_cons.mp hx).resolve_left (fun e => c (e ▸ px))
      obtain ⟨l1, x', l2, e, p1, p2⟩ := fst_ex (l := l) ⟨x, hx', px⟩
      refine ⟨y :: l1, x', l2, by rw [e]; rfl, p1, fun z hz => ?_⟩
      rcases List.mem_cons.mp hz with d | d
      · rw [d]; exact c
      · exact p2 z d
theorem best_ex {a : Row} {w who : Nat} {val : Nat → Int} (hv : IsVal a w val) (hw : who < 2) : ∃ X, X ∈ PLXA a w who ∧ FB a w who val (fun q => bl (X q)) := by
  obtain ⟨l1, X, l2, e, p1, p2⟩ := fst_ex (val_has hv hw)
  obtain ⟨f1, f2⟩ := FBX_A (v := val) (fun _ _ => rfl) ⟨l1, l2, e, p1, p2⟩
  exact ⟨X, f2, f1⟩
/-- the game's answer, fixed: value, first best plans -/
def GmA (a : Row) (w : Nat) (val : Nat → Int) (Xs : Nat → Nat → Nat) : Prop := IsVal a w val ∧ ∀ who, who < 2 → Xs who ∈ PLXA a w who ∧ FB a w who val (fun q => bl (Xs who q))
theorem GmA_ex {a : Row} (O : LandOK a) (w : Nat) : ∃ val Xs, GmA a w val Xs := by
  obtain ⟨val, hv⟩ := val_ex O w
  obtain ⟨X0, a0, b0⟩ := best_ex hv (show 0 < 2 by omega)
  obtain ⟨X1, a1, b1⟩ := best_ex hv (show 1 < 2 by omega)
  refine ⟨val, fun who => if who = 1 then X1 else X0, hv, fun who hw => ?_⟩
  have w01 : who = 0 ∨ who = 1 := by omega
  rcases w01 with rfl | rfl
  · exact ⟨a0, b0⟩
  · exact ⟨a1, b1⟩
theorem lst_bl {X Y : Nat → Nat} (h : (fun q => bl (X q)) = (fun q => bl (Y q))) (p : Nat) : bl (X p) = bl (Y p) := congrFun h p
theorem Xs_own {a : Row} {w : Nat} {val : Nat → Int} {Xs : Nat → Nat → Nat} (G : GmA a w val Xs) {p : Nat} (hp : p < nP a) {who : Nat} (hw : who < 2) (ho : ownB (mnA a) who p = true) : ∃ e, (wys a w p).testBit e = true ∧ e < 24 ∧ Xs who p = 2 ^ e := PLX_own (G.2 who hw).1 hp ho
/-- the class's game, solved -/
def GmC (a : Row) (w : Nat) (val : Nat → Int) (Xs : Nat → Nat → Nat) (h : Hp) : Prop := ∀ p, p < nP a → (gI h 82 p).toInt = val p ∧ gI h 84 p = nI (cntA a w 1 val p) ∧ gI h 85 p = nI (cntA a w 0 val p) ∧ ∀ e who, who < 2 → ownB (mnA a) who p = true → Xs who p = 2 ^ e → e < 24 → gI h 83 p = nI (tw e)
theorem cnt_v {a : Row} {w who : Nat} {v val : Nat → Int} {p : Nat} (e : v p = val p) : cntA a w who v p = cntA a w who val p := by
  unfold cntA; rw [e]
theorem own_m {a : Row} {who p : Nat} (hw : who < 2) (ho : ownB (mnA a) who p = true) : who = if mnA a p then 1 else 0 := by
  unfold ownB at ho
  have w01 : who = 0 ∨ who = 1 := by omega
  rcases w01 with rfl | rfl <;> cases hm : mnA a p <;> rw [hm] at ho <;> first | rfl | (exact absurd ho (by decide))
theorem GameR_C {a : Row} (O : LandOK a) {w : Nat} {val : Nat → Int} {Xs : Nat → Nat → Nat} {h : Hp} (G : GmA a w val Xs) (R : GameR h a w) : GmC a w val Xs h := by
  obtain ⟨v, X1, X0, hv, fb1, fb0, r⟩ := R
  have e := IsVal_u hv G.1
  have e1 := FB_u e fb1 (G.2 1 (by omega)).2
  have e0 := FB_u e fb0 (G.2 0 (by omega)).2
  intro p hp
  obtain ⟨r1, r2, r3, r4⟩ := r p hp
  have b := val_b O G.1 hp
  refine ⟨?_, by rw [r2, cnt_v (e p hp)], by rw [r3, cnt_v (e p hp)], fun x who hw ho hx x24 => r4 x ?_⟩
  · rw [r1, e p hp]
    exact Int32.toInt_ofInt_of_le (by omega) (by omega)
  · have em := own_m hw ho
    by_cases m : mnA a p = true
    · rw [if_pos m] at em ⊢
      subst em
      rw [e1]
      show bl (Xs 1 p) = [x]
      rw [hx, bl_pow x24]
    · rw [if_neg m] at em ⊢
      subst em
      rw [e0]
      show bl (Xs 0 p) = [x]
      rw [hx, bl_pow x24]
theorem c_solveI {B : Int} {h : Hp} {Q : Hp → Prop} {w : Nat} {val : Nat → Int} {Xs : Nat → Nat → Nat} (I : Inv B h) (hw : w < 10) (G : GmA (rowM h) w val Xs) (k : ∀ h1, Fp scG h h1 → iGame h1 → GmC (rowM h) w val Xs h1 → Q h1) : Game_solve (nI w) h Q := by
  obtain ⟨O, L⟩ : iLand h := I.1
  have ig : iGame h := I.2.2.2.2.2.2.2.1
  refine c_solve L O hw ig (fun h1 F1 e1 R1 => k h1 F1 (Or.inr ⟨w, hw, e1, ?_⟩) (GameR_C O G R1))
  rw [show rowM h1 = rowM h from funext (fun j => F1.1 99 j rfl)]
  exact R1
/-! the reference's -/
def GmW (a : Row) (w who : Nat) (val : Nat → Int) (Xs : Nat → Nat → Nat) (h : Hp) : Prop := (∀ p, p < nP a → gI h 116 (8 * who + p) = nI (cntA a w who val p)) ∧ ∃ U, UX a (Xs who) U ∧ gI h 114 who = nI U
theorem max_val {a : Row} {w : Nat} {val : Nat → Int} {m : Int} {p : Nat} (hv : IsVal a w val) (hp : p < nP a) (h1 : ∀ X, X ∈ PLXA a w 1 → svX a w 1 X p ≤ m) (h2 : ∃ X, X ∈ PLXA a w 1 ∧ svX a w 1 X p = m) : m = val p := by
  obtain ⟨X, x1, x2⟩ := h2
  obtain ⟨Y, y1, y2⟩ := val_has hv (show 1 < 2 by omega)
  have c1 := h1 Y y1
  rw [y2 p hp] at c1
  have c2 : svX a w 1 X p ≤ val p := hv.2.2.1 _ (PLX_in x1) p hp
  omega
theorem bl_inj {n m : Nat} (hn : n < 2 ^ 24) (hm : m < 2 ^ 24) (h : bl n = bl m) : n = m := by
  apply Nat.eq_of_testBit_eq
  intro i
  rw [Bool.eq_iff_iff]
  have big : ∀ k, k < 2 ^ 24 → k.testBit i = true → i < 24 := fun k hk hb => by
    rcases Nat.lt_or_ge i 24 with c | c
    · exact c
    · rw [Nat.testBit_lt_two_pow (Nat.lt_of_lt_of_le hk (Nat.pow_le_pow_right (by decide) c))] at hb; cases hb
  constructor
  · intro b
    have : i ∈ bl n := mem_bl.mpr ⟨big n hn b, b⟩
    rw [h] at this; exact (mem_bl.mp this).2
  · intro b
    have : i ∈ bl m := mem_bl.mpr ⟨big m hm b, b⟩
    rw [← h] at this; exact (mem_bl.mp this).2
theorem m_laysGame {a : Row} {w : Nat} {h : Hp} {Q : Hp → Prop} {val : Nat → Int} {Xs : Nat → Nat → Nat} (O : LandOK a) (h99 : ∀ j, gI h 99 j = a j) (ew : a 61 = nI w) (G : GmA a w val Xs) (k : ∀ h1, Fp scM h h1 → StM a w h1 → Wth a w val h1 → GmW a w 0 val Xs h1 → GmW a w 1 val Xs h1 → Q h1) : M_laysGame h Q := by
  have h8 := O.1.2.1
  unfold M_laysGame
  refine m_laysRings O h99 ew (fun h1 F1 g1 z1 r1 => ?_)
  have S1 : StM a w h1 := ⟨g1, z1, r1⟩
  refine pk_loop (σ := Hp) (fun n i h' => M_laysGame_L6 _ n (nI i) h') (fun i h' => Fp (fun o _ => o == 115) h1 h' ∧ ∀ p, p < i → gI h' 115 p = -1) 8 0 h1 (by omega) ⟨Fp.rf _ _, fun p hp => absurd hp (by omega)⟩ (fun n h2 J2 => ?_) (fun n i h' hi J hk => ?_)
  · unfold M_laysGame_L6
    refine pk_le 8 8 (fun _ => ?_) (fun c => absurd c (by omega))
    obtain ⟨F2, e115⟩ := J2
    refine pk_loop (σ := Hp) (fun n i h' => M_laysGame_L27 _ n (nI i) h') (fun i h' => Fp (fun o _ => o == 116) h2 h' ∧ ∀ p, p < i → gI h' 116 p = 0) 16 0 h2 (by omega) ⟨Fp.rf _ _, fun p hp => absurd hp (by omega)⟩ (fun n h3 J3 => ?_) (fun n i h' hi J hk => ?_)
    · unfold M_laysGame_L27
      refine pk_le 16 16 (fun _ => ?_) (fun c => absurd c (by omega))
      obtain ⟨F3, e116⟩ := J3
      have F13 : Fp oGa h1 h3 := (F2.mo (oGa_1 (by omega))).tr (F3.mo (oGa_1 (by omega)))
      have S3 : StM a w h3 := StM_k S1 F13 oGa_S
      -- gathering
      have ga := m_goesPlans (a := a) (w := w) (who := 1) (x4 := 0) (Φ := fun done h' => Fp oGa h1 h' ∧ StM a w h' ∧ GaP a w done h' ∧ ∀ j, j < 16 → gI h' 116 j = 0) O (by omega) (fun done h' P => ⟨P.2.1.1, P.2.1.2.1⟩) (fun done X U h' Q' hX hU P kk => ?_) (nP a) 10 0 0 (wys a w) [] h3 (fun h10 => ∃ n14, M_laysGame_L56 Q n14 0 h10) (by omega) (by omega) (fun q hq => absurd hq (by omega)) (fun q _ => rfl) ⟨by decide, fun e => ⟨fun b => (by rw [Nat.zero_testBit] at b; cases b), fun ⟨q, hq, _⟩ => absurd hq (by omega)⟩⟩ ⟨F13, S3, fun p hp => Or.inl ⟨rfl, by rw [F3.1 115 p rfl]; exact e115 p (by omega)⟩, e116⟩ (fun h4 P4 => ?_)
      · exact ga
      · obtain ⟨Fd, Sd, Gd, Zd⟩ := P
        refine m_laysSecured O hX hU (by omega) (Sd.1 1) Sd.2.1 Sd.2.2 (fun h5 F5 sec => ⟨fun q => absurd rfl q, fun _ => ?_⟩)
        have S5 : StM a w h5 := StM_k Sd F5 (fun o k => by
          by_cases c : o = 117
          · exact Or.inl (by omega)
          · exact Or.inr (by simp only [o117, beq_eq_false_iff_ne]; exact c))
        refine m_gathers O S5 (fun p hp => ?_) sec (fun h6 F6 G6 => kk h6 ⟨(Fd.tr (F5.mo (oGa_1 (x := 117) (by omega)))).tr (F6.mo (oGa_1 (by omega))), StM_k S5 F6 (fun o k => by
          by_cases c : o = 115
          · exact Or.inl (by omega)
          · exact Or.inr (by rw [beq_eq_false_iff_ne]; exact c)), G6, fun j hj => by rw [F6.1 116 j rfl, F5.1 116 j rfl]; exact Zd j hj⟩)
        rw [F5.1 115 p rfl]; exact Gd p hp
      · obtain ⟨F4, S4, G4, Z4⟩ := P4
        have epl : [] ++ plx (ownB (mnA a) 1) (wys a w) (nP a) 0 (wys a w) = PLXA a w 1 := rfl
        rw [epl] at G4
        have W4 : Wth a w val h4 := fun p hp => by
          rcases G4 p hp with ⟨z, _⟩ | ⟨_, j, R, e1, e2, e3, e4⟩
          · obtain ⟨Y, y1, _⟩ := val_has G.1 (show 1 < 2 by omega)
            rw [z] at y1; cases y1
          · exact ⟨j, R, e1, e2, max_val G.1 hp e3 e4⟩
        -- counting, one player after the other
        refine pk_loop (σ := Hp) (fun n i h' => M_laysGame_L56 Q n (nI i) h') (fun i h' => Fp oGa h1 h' ∧ StM a w h' ∧ Wth a w val h' ∧ (∀ who, who < i → GmW a w who val Xs h') ∧ ∀ j, 8 * i ≤ j → j < 16 → gI h' 116 j = 0) 2 0 h4 (by omega) ⟨F4, S4, W4, fun who hw => absurd hw (by omega), fun j _ hj => Z4 j hj⟩ (fun n h5 J5 => ?_) (fun n i h' hi J hk => ?_)
        · obtain ⟨F5, S5, W5, G5, _⟩ := J5
          unfold M_laysGame_L56
          exact pk_le 2 2 (fun _ => k h5 (F1.tr (F5.mo scM_Ga)) S5 W5 (G5 0 (by omega)) (G5 1 (by omega))) (fun c => absurd c (by omega))
        · obtain ⟨F5, S5, W5, G5, Z5⟩ := J
          unfold M_laysGame_L56
          refine pk_le 2 i (fun c => absurd c (by omega)) (fun _ => ⟨pk_in i 2 hi, ?_⟩)
          rw [cl i]
          rintro _ rfl
          have t114 : oGa 114 i = true := rfl
          have Fs : Fp oGa h1 (sI h' 114 i 0) := Fp.sI F5 t114
          have Ss : StM a w (sI h' 114 i 0) := StM_k S5 (Fp.sI (Fp.rf oGa h') t114) oGa_S
          have o117_4 : ∀ o k, (114 ≤ o ∧ o ≤ 117) ∨ o117 o k = false := fun o k => by
            by_cases c : o = 117
            · exact Or.inl (by omega)
            · exact Or.inr (by simp only [o117, beq_eq_false_iff_ne]; exact c)
          have oCo_4 : ∀ o k, (114 ≤ o ∧ o ≤ 117) ∨ oCo i o k = false := fun o k => by
            by_cases c : 114 ≤ o ∧ o ≤ 117
            · exact Or.inl c
            · exact Or.inr (by simp only [oCo, Bool.or_eq_false_iff, Bool.and_eq_false_iff, beq_eq_false_iff_ne]; omega)
          have oGa_Co : ∀ o k, oGa o k = false → oCo i o k = false := fun o k h => by
            simp only [oGa, Bool.and_eq_false_iff, decide_eq_false_iff_not] at h
            simp only [oCo, Bool.or_eq_false_iff, Bool.and_eq_false_iff, beq_eq_false_iff_ne]; omega
          have co := m_goesPlans (a := a) (w := w) (who := i) (x4 := 1) (Φ := fun done h' => Fp oGa h1 h' ∧ StM a w h' ∧ Wth a w val h' ∧ CoP a w i val done h' ∧ (∀ who, who < i → GmW a w who val Xs h') ∧ ∀ j, 8 * (i + 1) ≤ j → j < 16 → gI h' 116 j = 0) O (by omega) (fun done h' P => ⟨P.2.1.1, P.2.1.2.1⟩) (fun done X U h' Q' hX hU P kk => ?_) (nP a) 10 0 0 (wys a w) [] (sI h' 114 i 0) (fun h12 => ∀ v13 : Int32, v13 = (nI i + 1) → M_laysGame_L56 Q n v13 h12) (by omega) (by omega) (fun q hq => absurd hq (by omega)) (fun q _ => rfl) ⟨by decide, fun e => ⟨fun b => (by rw [Nat.zero_testBit] at b; cases b), fun ⟨q, hq, _⟩ => absurd hq (by omega)⟩⟩ ⟨Fs, Ss, fun p hp => by rw [sI_o (by decide)]; exact W5 p hp, ⟨fun p hp => ?_, Or.inl ⟨by rw [sI_s], fun X hX => by cases hX⟩⟩, fun who hw => ?_, fun j h1 h2 => by rw [sI_o (by decide)]; exact Z5 j (by omega) h2⟩ (fun h6 P6 => ?_)
          · exact co
          · obtain ⟨Fd, Sd, Wd, Cd, Gd, Zd⟩ := P
            refine m_laysSecured O hX hU (by omega) (Sd.1 1) Sd.2.1 Sd.2.2 (fun h7 F7 sec => ⟨fun _ => ?_, fun q => absurd q (by decide)⟩)
            have S7 : StM a w h7 := StM_k Sd F7 o117_4
            refine m_counts (val := val) (done := done) O (by omega) hX hU S7 (fun p hp => by rw [F7.1 115 p rfl]; exact Wd p hp) ⟨fun p hp => by rw [F7.1 116 _ rfl]; exact Cd.1 p hp, by rw [F7.1 114 i rfl]; exact Cd.2⟩ sec (fun h8 F8 C8 => kk h8 ⟨(Fd.tr (F7.mo (oGa_1 (x := 117) (by omega)))).tr (F8.mo oGa_Co), StM_k S7 F8 oCo_4, fun p hp => ?_, C8, fun who hw => ?_, fun j hj1 hj2 => ?_⟩)
            · rw [F8.1 115 p rfl, F7.1 115 p rfl]; exact Wd p hp
            · obtain ⟨q1, U', q2, q3⟩ := Gd who hw
              refine ⟨fun p hp => ?_, U', q2, ?_⟩
              · rw [F8.1 116 _ (by simp only [oCo, Bool.or_eq_false_iff, Bool.and_eq_false_iff, beq_eq_false_iff_ne, decide_eq_false_iff_not]; omega), F7.1 116 _ rfl]; exact q1 p hp
              · rw [F8.1 114 who (by simp only [oCo, Bool.or_eq_false_iff, Bool.and_eq_false_iff, beq_eq_false_iff_ne, decide_eq_false_iff_not]; omega), F7.1 114 who rfl]; exact q3
            · rw [F8.1 116 _ (by simp only [oCo, Bool.or_eq_false_iff, Bool.and_eq_false_iff, beq_eq_false_iff_ne, decide_eq_false_iff_not]; omega), F7.1 116 _ rfl]; exact Zd j hj1 hj2
          · rw [sI_o (by decide), Z5 _ (by omega) (by omega)]; rfl
          · obtain ⟨q1, U', q2, q3⟩ := G5 who hw
            exact ⟨fun p hp => by rw [sI_o (by decide)]; exact q1 p hp, U', q2, by rw [sI_k (by omega)]; exact q3⟩
          · obtain ⟨F6, S6, W6, C6, G6, Z6⟩ := P6
            have epl : [] ++ plx (ownB (mnA a) i) (wys a w) (nP a) 0 (wys a w) = PLXA a w i := rfl
            rw [epl] at C6
            rintro _ rfl
            rw [nI_1 i]
            refine hk h6 ⟨F6, S6, W6, fun who hw => ?_, Z6⟩
            by_cases c : who = i
            · subst c
              refine ⟨fun p hp => by rw [C6.1 p hp, cnX_A rfl], ?_⟩
              rcases C6.2 with ⟨_, nb⟩ | ⟨X, U, fb, x1, x2, x3, x4⟩
              · obtain ⟨Y, y1, y2⟩ := val_has G.1 hi
                exact absurd y2 (nb Y y1)
              · refine ⟨U, ?_, x3⟩
                obtain ⟨f1, f2⟩ := FBX_A (v := val) (fun _ _ => rfl) fb
                have eX := FB_u (fun _ _ => rfl) f1 (G.2 who hi).2
                refine ⟨x2.1, fun e => ?_⟩
                rw [x2.2]
                have same : ∀ q, q < nP a → X q = Xs who q := fun q hq => bl_inj (X_lt O x1 hq) (X_lt O (PLX_ok O (G.2 who hi).1) hq) (lst_bl eX q)
                constructor
                · rintro ⟨q, hq, hb⟩; exact ⟨q, hq, by rw [← same q hq]; exact hb⟩
                · rintro ⟨q, hq, hb⟩; exact ⟨q, hq, by rw [same q hq]; exact hb⟩
            · exact G6 who (by omega)
    · unfold M_laysGame_L27
      refine pk_le 16 i (fun c => absurd c (by omega)) (fun _ => ⟨pk_in i 16 hi, ?_⟩)
      rw [cl i]
      rintro _ rfl _ rfl
      rw [nI_1 i]
      refine hk _ ⟨Fp.sI J.1 rfl, fun p hp => ?_⟩
      by_cases c : p = i
      · subst c; rw [sI_s]
      · rw [sI_k c]; exact J.2 p (by omega)
  · unfold M_laysGame_L6
    refine pk_le 8 i (fun c => absurd c (by omega)) (fun _ => ⟨pk_in i 8 hi, ?_⟩)
    rw [cl i]
    rintro _ rfl _ rfl
    rw [nI_1 i]
    refine hk _ ⟨Fp.sI J.1 rfl, fun p hp => ?_⟩
    by_cases c : p = i
    · subst c; rw [sI_s]
    · rw [sI_k c]; exact J.2 p (by omega)
