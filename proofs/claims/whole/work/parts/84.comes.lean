/-! the reference: where one comes by some ways; the best ring -/
def UX (a : Row) (X : Nat → Nat) (U : Nat) : Prop := U < 2 ^ 24 ∧ ∀ e, U.testBit e = true ↔ ∃ q, q < nP a ∧ (X q).testBit e = true
def clo (a : Row) (X : Nat → Nat) (C : Nat → Prop) : Prop := ∀ q e, q < nP a → (X q).testBit e = true → C q → C (ttA a e)
theorem m_comesIn {h : Hp} {K : Int32 → Hp → Prop} {a : Row} {w : Nat} {X : Nat → Nat} {U s0 : Nat} {x4 : Int32} (O : LandOK a) (z : WaysM h a w) (hX : XOK a w X) (hU : UX a X U) (hs : s0 < 2 ^ nP a) (k : ∀ s1, s1 < 2 ^ nP a → (∀ q, s0.testBit q = true → s1.testBit q = true) → (∀ q e, q < nP a → (X q).testBit e = true → s0.testBit q = true → s1.testBit (ttA a e) = true) → (∀ C : Nat → Prop, (∀ q, s0.testBit q = true → C q) → clo a X C → ∀ q, s1.testBit q = true → C q) → K (nI s1) h) : ∃ n10, M_comesBy_L17 (nI U) x4 K n10 (nI s0) 0 h := by
  have h8 := O.1.2.1
  refine pk_loop (σ := Nat) (fun n i s => M_comesBy_L17 (nI U) x4 K n (nI s) (nI i) h) (fun i s => s < 2 ^ nP a ∧ (∀ q, s0.testBit q = true → s.testBit q = true) ∧ (∀ q e, e < i → q < nP a → (X q).testBit e = true → s0.testBit q = true → s.testBit (ttA a e) = true) ∧ ∀ C : Nat → Prop, (∀ q, s0.testBit q = true → C q) → clo a X C → ∀ q, s.testBit q = true → C q) 24 0 s0 (by omega) ⟨hs, fun _ h => h, fun q e he => absurd he (by omega), fun C h1 _ => h1⟩ (fun n s J => ?_) (fun n i s hi J hk => ?_)
  · obtain ⟨j1, j2, j3, j4⟩ := J
    unfold M_comesBy_L17
    exact pk_le 24 24 (fun _ => k s j1 j2 (fun q e hq he => j3 q e (way24 O (by omega) (X_ok O hX hq he)) hq he) j4) (fun c => absurd c (by omega))
  · obtain ⟨j1, j2, j3, j4⟩ := J
    have s31 : s < 2 ^ 31 := Nat.lt_of_lt_of_le j1 (Nat.pow_le_pow_right (by decide) (by omega))
    have u31 := hU.1
    unfold M_comesBy_L17
    refine pk_le 24 i (fun c => absurd c (by omega)) (fun _ => s_isIn (by omega) (by omega) ?_)
    rintro J61 rfl
    by_cases b : U.testBit i = true
    · rw [if_pos b]
      obtain ⟨q, hq, hb⟩ := (hU.2 i).mp b
      have we := X_ok O hX hq hb
      have tl := ttA_lt O hq we
      have only : ∀ q', q' < nP a → (X q').testBit i = true → q' = q := fun q' hq' hb' => by
        have e1 := ways_f z hq' (X_ok O hX hq' hb')
        rw [ways_f z hq we, nI_eq (by omega) (by omega)] at e1
        exact e1.symm
      refine brF (by decide) ⟨pk_in i 24 hi, ?_⟩
      rw [cl i, ways_f z hq we]
      refine s_isIn s31 (by omega) ?_
      by_cases c : s.testBit q = true
      · rw [if_pos c]
        refine brF (by decide) ⟨pk_in i 24 hi, ?_⟩
        rw [(ways_e z hq we).1, z_1 (ttA a i) (by omega), z_or]
        rintro _ rfl _ rfl
        rw [nI_1 i]
        refine hk _ ⟨or_lt8 j1 tl, fun x hx => by rw [or_tb, j2 x hx]; rfl, fun x e he hx hxe h0 => ?_, fun C c1 c2 x hx => ?_⟩
        · rw [or_tb]
          by_cases d : e = i
          · subst d; rw [decide_eq_true rfl, Bool.or_true]
          · rw [j3 x e (by omega) hx hxe h0]; rfl
        · rw [or_tb, Bool.or_eq_true, decide_eq_true_iff] at hx
          rcases hx with hx | hx
          · exact j4 C c1 c2 x hx
          · rw [← hx]; exact c2 q i hq hb (j4 C c1 c2 q c)
      · rw [if_neg c]
        refine brT rfl ?_
        rintro _ rfl
        rw [nI_1 i]
        refine hk _ ⟨j1, j2, fun x e he hx hxe h0 => ?_, j4⟩
        by_cases d : e = i
        · subst d
          have := only x hx hxe
          subst this
          exact absurd (j2 x h0) c
        · exact j3 x e (by omega) hx hxe h0
    · rw [if_neg b]
      refine brT rfl ?_
      rintro _ rfl
      rw [nI_1 i]
      refine hk _ ⟨j1, j2, fun x e he hx hxe h0 => ?_, j4⟩
      by_cases d : e = i
      · subst d; exact absurd ((hU.2 e).mpr ⟨x, hx, hxe⟩) b
      · exact j3 x e (by omega) hx hxe h0
theorem m_comesBy {h : Hp} {Q : Int32 → Hp → Prop} {a : Row} {w : Nat} {X : Nat → Nat} {U p : Nat} (O : LandOK a) (z : WaysM h a w) (hX : XOK a w X) (hU : UX a X U) (hp : p < nP a) (k : ∀ r, r < 2 ^ nP a → (∀ q, r.testBit q = true ↔ q < nP a ∧ Rch (ttA a) (fun p => bl (X p)) p q) → Q (nI r) h) : M_comesBy (nI p) (nI U) h Q := by
  have h8 := O.1.2.1
  have hG := GW_X O hX
  unfold M_comesBy
  rw [z_1 p (by omega)]
  rintro _ rfl
  refine pk_loop (σ := Nat) (fun n i s => M_comesBy_L7 (nI U) Q n (nI s) (nI i) h) (fun i s => s < 2 ^ nP a ∧ s.testBit p = true ∧ (clo a X (fun q => s.testBit q = true) ∨ i + 1 ≤ cn8 s) ∧ ∀ C : Nat → Prop, C p → clo a X C → ∀ q, s.testBit q = true → C q) 8 0 (2 ^ p) (by omega) ⟨Nat.pow_lt_pow_right (by decide) hp, Nat.testBit_two_pow_self, Or.inr (by rw [cn8_1 p (by omega)]; omega), fun C c1 _ q hq => by rw [tb_pow hq]; exact c1⟩ (fun n s J => ?_) (fun n i s hi J hk => ?_)
  · obtain ⟨j1, j2, j3, j4⟩ := J
    unfold M_comesBy_L7
    refine pk_le 8 8 (fun _ => k s j1 (fun q => ⟨fun b => ?_, fun ⟨_, hr⟩ => ?_⟩)) (fun c => absurd c (by omega))
    · exact j4 (fun q => q < nP a ∧ Rch (ttA a) (fun p => bl (X p)) p q) ⟨hp, Rch.rfl' _ p⟩ (fun x e hx hb hC => ⟨ttA_lt O hx (X_ok O hX hx hb), hC.2.tl _ ((X_bl O hX hx).mpr hb)⟩) q b
    · have c := j3.resolve_right (fun c => by have := cn8_le s; omega)
      have : q < nP a ∧ s.testBit q = true := Rch.inv (ttA a) (S := fun p => bl (X p)) (I := fun q => q < nP a ∧ s.testBit q = true) (fun x e hx he => ⟨((hG.2 x hx.1).2 e he).1, c x e hx.1 ((X_bl O hX hx.1).mp he) hx.2⟩) hr ⟨hp, j2⟩
      exact this.2
  · obtain ⟨j1, j2, j3, j4⟩ := J
    unfold M_comesBy_L7
    refine pk_le 8 i (fun c => absurd c (by omega)) (fun _ => m_comesIn O z hX hU j1 (fun s1 a1 a2 a3 a4 => ?_))
    rintro _ rfl
    rw [nI_1 i]
    refine hk s1 ⟨a1, a2 p j2, ?_, fun C c1 c2 => a4 C (j4 C c1 c2) c2⟩
    by_cases cl : clo a X (fun q => s.testBit q = true)
    · left
      have e : ∀ q, s1.testBit q = true → s.testBit q = true := a4 _ (fun _ h => h) cl
      exact fun q x hq hx hs => a2 _ (cl q x hq hx (e q hs))
    · right
      have c5 := j3.resolve_left cl
      have : ∃ q x, q < nP a ∧ (X q).testBit x = true ∧ s.testBit q = true ∧ ¬ s.testBit (ttA a x) = true := by
        apply Classical.byContradiction
        intro hn
        refine cl (fun q x hq hx hs => Classical.byContradiction (fun hne => hn ⟨q, x, hq, hx, hs, hne⟩))
      obtain ⟨q, x, hq, hx, hs, hne⟩ := this
      have lt : cn8 s < cn8 s1 := by
        unfold cn8
        refine cnt_lt _ _ _ (fun y _ hy => a2 y hy) ⟨ttA a x, ?_, a3 q x hq hx hs, Bool.eq_false_iff.mpr hne⟩
        rw [List.mem_range]
        have := ttA_lt O hq (X_ok O hX hq hx)
        omega
      omega
/-! which of two rings -/
theorem pay_lt {R T : Rg} (h1 : 1 ≤ R.2.2.2) (h2 : R.2.2.2 ≤ 8) (h3 : 1 ≤ T.2.2.2) (h4 : T.2.2.2 ≤ 8) : T.2.2.1 * (R.2.2.2 : Int) ≤ R.2.2.1 * (T.2.2.2 : Int) ↔ mR T ≤ mR R := by
  have a := mR_mul h1 h2
  have b := mR_mul h3 h4
  have p1 : (0 : Int) < (R.2.2.2 : Int) * (T.2.2.2 : Int) := Int.mul_pos (by omega) (by omega)
  have e1 : 840 * (T.2.2.1 * (R.2.2.2 : Int)) = mR T * ((R.2.2.2 : Int) * (T.2.2.2 : Int)) := by
    rw [← Int.mul_assoc, ← b, Int.mul_assoc, Int.mul_comm (T.2.2.2 : Int)]
  have e2 : 840 * (R.2.2.1 * (T.2.2.2 : Int)) = mR R * ((R.2.2.2 : Int) * (T.2.2.2 : Int)) := by
    rw [← Int.mul_assoc, ← a, Int.mul_assoc]
  constructor
  · intro h
    have : mR T * ((R.2.2.2 : Int) * (T.2.2.2 : Int)) ≤ mR R * ((R.2.2.2 : Int) * (T.2.2.2 : Int)) := by omega
    exact Int.le_of_mul_le_mul_right this p1
  · intro h
    have := Int.mul_le_mul_of_nonneg_right h (Int.le_of_lt p1)
    omega
/-- what is known of each ring of a list -/
def RgOK (l : List Rg) : Prop := l.length ≤ 1024 ∧ ∀ R, R ∈ l → 1 ≤ R.2.2.2 ∧ R.2.2.2 ≤ 8 ∧ (-792 ≤ R.2.2.1 ∧ R.2.2.1 ≤ 792) ∧ R.2.1 < 2 ^ 8 ∧ R.1 < 2 ^ 24
theorem RgOK_A {a : Row} (O : LandOK a) (w : Nat) : RgOK (rings (ttA a) (pIA a w) (wlA a w) (nP a)) := by
  have h8 := O.1.2.1
  refine ⟨Nat.le_of_lt (rings_1024 O w), fun R hR => ?_⟩
  obtain ⟨b1, b2, b3, b4, b5⟩ := rings_ok (ttA a) (pIA a w) (GW_A O w) hR
  exact ⟨b1, b2, by omega, Nat.lt_of_lt_of_le b4 (Nat.pow_le_pow_right (by decide) h8), b5⟩
theorem m_isLess {h : Hp} {Q : Int32 → Hp → Prop} {l : List Rg} {i j : Nat} {R T : Rg} (r : RgM h l) (ok : RgOK l) (hi : l[i]? = some R) (hj : l[j]? = some T) (k1 : mR R < mR T → Q 1 h) (k0 : ¬ mR R < mR T → Q 0 h) : M_isLess (nI i) (nI j) h Q := by
  obtain ⟨il, ir⟩ := List.getElem?_eq_some_iff.mp hi
  obtain ⟨jl, jr⟩ := List.getElem?_eq_some_iff.mp hj
  have ln := ok.1
  obtain ⟨a1, a2, a3, _⟩ := ok.2 R (ir ▸ List.getElem_mem il)
  obtain ⟨b1, b2, b3, _⟩ := ok.2 T (jr ▸ List.getElem_mem jl)
  obtain ⟨_, _, i3, i4⟩ := r.2 i R hi
  obtain ⟨_, _, j3, j4⟩ := r.2 j T hj
  unfold M_isLess
  refine ⟨pk_in i 1024 (by omega), pk_in j 1024 (by omega), pk_in j 1024 (by omega), pk_in i 1024 (by omega), ?_⟩
  rw [cl i, cl j, i3, i4, j3, j4]
  have v : ∀ (s : Int) (n : Nat), (-792 ≤ s ∧ s ≤ 792) → (1 ≤ n ∧ n ≤ 8) → (Int32.ofInt s * nI n).toInt = s * (n : Int) := fun s n hs hn => by
    have e1 : (Int32.ofInt s).toInt = s := Int32.toInt_ofInt_of_le (by omega) (by omega)
    have e2 : (nI n).toInt = n := nI_toInt (by omega)
    have b : -6336 ≤ s * (n : Int) ∧ s * (n : Int) ≤ 6336 := by
      have : n = 1 ∨ n = 2 ∨ n = 3 ∨ n = 4 ∨ n = 5 ∨ n = 6 ∨ n = 7 ∨ n = 8 := by omega
      rcases this with rfl | rfl | rfl | rfl | rfl | rfl | rfl | rfl <;> omega
    rw [i_mul (by rw [e1, e2]; omega), e1, e2]
  rw [i_le, v _ _ b3 ⟨a1, a2⟩, v _ _ a3 ⟨b1, b2⟩, pay_lt a1 a2 b1 b2]
  exact ⟨fun c => k0 (by omega), fun c => k1 (by omega)⟩
theorem rgs_cong {tt : Nat → Nat} {pp : Nat → Int} {S T : Nat → List Nat} {P fst : Nat} (hG : GW tt pp S P) (hs : ∀ p, p < P → S p = T p) : ∀ {d p ws pl : Nat} {pay : Int} {n : Nat}, p < P → rgs tt pp S fst d p ws pl pay n = rgs tt pp T fst d p ws pl pay n
  | 0, _, _, _, _, _, _ => rfl
  | d + 1, p, ws, pl, pay, n, hp => by
    show (S p).flatMap _ = (T p).flatMap _
    rw [← hs p hp]
    refine flatMap_c (fun e he => ?_)
    rw [rgs_cong hG hs (d := d) ((hG.2 p hp).2 e he).1]
theorem rings_cong {tt : Nat → Nat} {pp : Nat → Int} {S T : Nat → List Nat} {P : Nat} (hG : GW tt pp S P) (hs : ∀ p, p < P → S p = T p) : rings tt pp S P = rings tt pp T P := flatMap_c (fun p hp => rgs_cong hG hs (List.mem_range.mp hp))
theorem rings_U {a : Row} {w : Nat} {X : Nat → Nat} {U : Nat} (O : LandOK a) (hX : XOK a w X) (hU : UX a X U) : rings (ttA a) (pIA a w) (fun p => bl (X p)) (nP a) = (rings (ttA a) (pIA a w) (wlA a w) (nP a)).filter (wIn U) := by
  have h8 := O.1.2.1
  rw [← rings_filter (ttA a) (pIA a w) (S := wlA a w) (T := fun p => (wlA a w p).filter (fun e => U.testBit e)) (fun p => rfl)]
  refine rings_cong (GW_X O hX) (fun p hp => ?_)
  show (List.range 24).filter (fun e => (X p).testBit e) = ((List.range 24).filter (fun e => (wys a w p).testBit e)).filter (fun e => U.testBit e)
  rw [List.filter_filter]
  refine List.filter_congr (fun e _ => ?_)
  rw [Bool.eq_iff_iff, Bool.and_eq_true]
  constructor
  · intro b; exact ⟨(hU.2 e).mpr ⟨p, hp, b⟩, (hX p hp).2 e b⟩
  · rintro ⟨b1, b2⟩
    obtain ⟨q, hq, hb⟩ := (hU.2 e).mp b1
    have w1 := X_ok O hX hq hb
    have w2 : wayOK a w p e := (wys_tb O).mp b2
    have : q = p := by
      rcases w1 with ⟨c1, _, c3, _⟩ | ⟨_, c2⟩ <;> rcases w2 with ⟨d1, _, d3, _⟩ | ⟨_, d2⟩ <;> omega
    rw [← this]; exact hb
theorem wIn_0 {U : Nat} {R : Rg} (h1 : R.1 < 2 ^ 24) : nI R.1 &&& (nI U ^^^ (-1)) = 0 ↔ wIn U R = true := by
  have e := z_andn (a := R.1) (b := U) (m := bset (fun i => R.1.testBit i && !(U.testBit i)) 24) (fun i => by
    rw [bset_tb]
    by_cases c : i < 24
    · simp [c]
    · rw [Nat.testBit_lt_two_pow (Nat.lt_of_lt_of_le h1 (Nat.pow_le_pow_right (by decide) (show 24 ≤ i by omega)))]; simp)
  have bl := bset_lt (fun i => R.1.testBit i && !(U.testBit i)) 24
  rw [e, show (0 : Int32) = nI 0 from rfl, nI_eq (by omega) (by decide), bset_0, wIn_iff]
  constructor
  · intro h i hi
    rcases Nat.lt_or_ge i 24 with c | c
    · have := h i c
      simp only [hi, Bool.true_and, Bool.not_eq_false'] at this
      exact this
    · rw [Nat.testBit_lt_two_pow (Nat.lt_of_lt_of_le h1 (Nat.pow_le_pow_right (by decide) c))] at hi; cases hi
  · intro h i _
    cases c : R.1.testBit i
    · rfl
    · simp [h i c]
/-- the best ring: an index of it -/
theorem m_ringBy {h : Hp} {Q : Int32 → Hp → Prop} {l : List Rg} {U r who : Nat} {x3 : Int32} (rg : RgM h l) (ok : RgOK l) (hr : r < 2 ^ 8) (hwho : (who = 1 ∧ x3 = 0) ∨ (who = 0 ∧ x3 = 1)) (ex : ∃ R, R ∈ l ∧ wIn U R = true ∧ ¬ R.2.1 &&& r = 0) (k : ∀ j R, l[j]? = some R → wIn U R = true → ¬ R.2.1 &&& r = 0 → (∀ T, T ∈ l → wIn U T = true → ¬ T.2.1 &&& r = 0 → if who = 1 then mR R ≤ mR T else mR T ≤ mR R) → Q (nI j) h) : M_ringBy (nI r) (nI U) x3 h Q := by
  have ln := ok.1
  unfold M_ringBy
  refine pk_loop (σ := Int32) (fun n i b => M_ringBy_L6 (nI r) (nI U) x3 Q n b (nI i) h) (fun i b => (b = -1 ∧ ∀ j T, j < i → l[j]? = some T → wIn U T = true → T.2.1 &&& r = 0) ∨ ∃ j R, b = nI j ∧ l[j]? = some R ∧ wIn U R = true ∧ ¬ R.2.1 &&& r = 0 ∧ ∀ j' T, j' < i → l[j']? = some T → wIn U T = true → ¬ T.2.1 &&& r = 0 → if who = 1 then mR R ≤ mR T else mR T ≤ mR R) l.length 0 (-1) (by omega) (Or.inl ⟨rfl, fun j T hj => absurd hj (by omega)⟩) (fun n b J => ?_) (fun n i b hi J hk => ?_)
  · unfold M_ringBy_L6
    rw [rg.1]
    refine pk_le l.length l.length (fun _ => ?_) (fun c => absurd c (by omega))
    rcases J with ⟨_, none'⟩ | ⟨j, R, rfl, hj, s1, s2, best⟩
    · obtain ⟨R, hR, e1, e2⟩ := ex
      obtain ⟨j, hj, hg⟩ := List.mem_iff_getElem.mp hR
      exact absurd (none' j R hj (List.getElem?_eq_some_iff.mpr ⟨hj, hg⟩) e1) e2
    · refine k j R hj s1 s2 (fun T hT t1 t2 => ?_)
      obtain ⟨j', hj', hg⟩ := List.mem_iff_getElem.mp hT
      exact best j' T hj' (List.getElem?_eq_some_iff.mpr ⟨hj', hg⟩) t1 t2
  · obtain ⟨R, hR⟩ : ∃ R, l[i]? = some R := ⟨l[i], List.getElem?_eq_some_iff.mpr ⟨hi, rfl⟩⟩
    obtain ⟨r1, r2, r3, r4⟩ := rg.2 i R hR
    have Rm : R ∈ l := by
      obtain ⟨a1, a2⟩ := List.getElem?_eq_some_iff.mp hR
      exact a2 ▸ List.getElem_mem a1
    obtain ⟨_, _, _, o4, o5⟩ := ok.2 R Rm
    unfold M_ringBy_L6
    rw [rg.1]
    refine pk_le l.length i (fun c => absurd c (by omega)) (fun _ => ⟨pk_in i 1024 (by omega), ?_⟩)
    rintro J83 rfl
    have skip : ¬ (wIn U R = true ∧ ¬ R.2.1 &&& r = 0) → M_ringBy_L6 (nI r) (nI U) x3 Q n b (nI (i + 1)) h := fun c => by
      refine hk b (J.imp (fun ⟨h1, h2⟩ => ⟨h1, fun j T hj hT t1 => ?_⟩) (fun ⟨j, R', h1, h2, h3, h4, h5⟩ => ⟨j, R', h1, h2, h3, h4, fun j' T hj hT t1 t2 => ?_⟩))
      · by_cases d : j = i
        · subst d; rw [hR] at hT; cases hT
          exact Classical.byContradiction (fun t2 => c ⟨t1, t2⟩)
        · exact h2 j T (by omega) hT t1
      · by_cases d : j' = i
        · subst d; rw [hR] at hT; cases hT
          exact absurd ⟨t1, t2⟩ c
        · exact h5 j' T (by omega) hT t1 t2
    rw [cl i, r1, r2, wIn_0 o5, z_and]
    have an : nI (R.2.1 &&& r) = 0 ↔ R.2.1 &&& r = 0 := by
      have : R.2.1 &&& r < 2 ^ 8 := Nat.and_lt_two_pow _ hr
      rw [show (0 : Int32) = nI 0 from rfl, nI_eq (by omega) (by decide)]
    rw [an]
    refine ⟨fun c => ?_, fun c => ⟨pk_in i 1024 (by omega), fun c2 => ?_, fun c2 => ?_⟩⟩
    · rintro _ rfl
      rw [nI_1 i]
      exact skip (fun z => c z.1)
    · rintro J79 rfl
      -- R is taken where it is better
      have take : (∀ j' T, j' < i → l[j']? = some T → wIn U T = true → ¬ T.2.1 &&& r = 0 → if who = 1 then mR R ≤ mR T else mR T ≤ mR R) → ∀ v3 : Int32, v3 = (nI i + 1) → M_ringBy_L6 (nI r) (nI U) x3 Q n (nI i) v3 h := by
        rintro hb _ rfl
        rw [nI_1 i]
        refine hk (nI i) (Or.inr ⟨i, R, rfl, hR, c, c2, fun j' T hj hT t1 t2 => ?_⟩)
        by_cases d : j' = i
        · subst d; rw [hR] at hT; cases hT
          split <;> exact Int.le_refl _
        · exact hb j' T (by omega) hT t1 t2
      have stay : (∃ j R', b = nI j ∧ l[j]? = some R' ∧ wIn U R' = true ∧ ¬ R'.2.1 &&& r = 0 ∧ (if who = 1 then mR R' ≤ mR R else mR R ≤ mR R') ∧ ∀ j' T, j' < i → l[j']? = some T → wIn U T = true → ¬ T.2.1 &&& r = 0 → if who = 1 then mR R' ≤ mR T else mR T ≤ mR R') → ∀ v3 : Int32, v3 = (nI i + 1) → M_ringBy_L6 (nI r) (nI U) x3 Q n b v3 h := by
        rintro ⟨j, R', h1, h2, h3, h4, h6, h5⟩ _ rfl
        rw [nI_1 i]
        refine hk b (Or.inr ⟨j, R', h1, h2, h3, h4, fun j' T hj hT t1 t2 => ?_⟩)
        by_cases d : j' = i
        · subst d; rw [hR] at hT; cases hT; exact h6
        · exact h5 j' T (by omega) hT t1 t2
      rcases J with ⟨rfl, none'⟩ | ⟨j, R', rfl, hj, s1, s2, best⟩
      · exact brT rfl (take (fun j' T hj hT t1 t2 => absurd (none' j' T hj hT t1) t2))
      · have jl := (List.getElem?_eq_some_iff.mp hj).1
        have jn : ¬ nI j = -1 := fun e => by
          have := congrArg Int32.toInt e
          rw [nI_toInt (by omega)] at this
          have h3 : (-1 : Int32).toInt = -1 := by decide
          omega
        refine brF jn ?_
        rcases hwho with ⟨rfl, rfl⟩ | ⟨rfl, rfl⟩
        · refine brT rfl (m_isLess rg ok hR hj (fun c3 => brF (by decide) (take (fun j' T hj' hT t1 t2 => ?_))) (fun c3 => brT rfl (stay ⟨j, R', rfl, hj, s1, s2, ?_, best⟩)))
          · have := best j' T hj' hT t1 t2
            rw [if_pos rfl] at this ⊢; omega
          · rw [if_pos rfl]; omega
        · refine brF (by decide) (m_isLess rg ok hj hR (fun c3 => brF (by decide) (take (fun j' T hj' hT t1 t2 => ?_))) (fun c3 => brT rfl (stay ⟨j, R', rfl, hj, s1, s2, ?_, best⟩)))
          · have := best j' T hj' hT t1 t2
            rw [if_neg (by decide)] at this ⊢; omega
          · rw [if_neg (by decide)]; omega
    · rintro _ rfl
      rw [nI_1 i]
      exact skip (fun z => z.2 c2)
theorem mts_r {a : Row} {X : Nat → Nat} {p r : Nat} {R : Rg} (hl : R.2.1 < 2 ^ nP a) (hr : ∀ q, r.testBit q = true ↔ q < nP a ∧ Rch (ttA a) (fun p => bl (X p)) p q) : ¬ R.2.1 &&& r = 0 ↔ Mts (ttA a) (fun p => bl (X p)) p R := by
  constructor
  · intro h
    obtain ⟨q, hq⟩ := Nat.exists_testBit_of_ne_zero h
    rw [Nat.testBit_and, Bool.and_eq_true] at hq
    exact ⟨q, ((hr q).mp hq.2).2, hq.1⟩
  · rintro ⟨q, h1, h2⟩ h
    have ql : q < nP a := by
      rcases Nat.lt_or_ge q (nP a) with c | c
      · exact c
      · rw [Nat.testBit_lt_two_pow (Nat.lt_of_lt_of_le hl (Nat.pow_le_pow_right (by decide) c))] at h2; cases h2
    have : (R.2.1 &&& r).testBit q = true := by rw [Nat.testBit_and, h2, (hr q).mpr ⟨ql, h1⟩]; rfl
    rw [h, Nat.zero_testBit] at this; cases this
/-- the ring that a plan secures from a place -/
theorem m_secRing {h : Hp} {Q : Int32 → Hp → Prop} {a : Row} {w : Nat} {X : Nat → Nat} {U p r who : Nat} {x3 : Int32} (O : LandOK a) (hX : XOK a w X) (hU : UX a X U) (hp : p < nP a) (rg : RgM h (rings (ttA a) (pIA a w) (wlA a w) (nP a))) (rl : r < 2 ^ nP a) (hr : ∀ q, r.testBit q = true ↔ q < nP a ∧ Rch (ttA a) (fun p => bl (X p)) p q) (hwho : (who = 1 ∧ x3 = 0) ∨ (who = 0 ∧ x3 = 1)) (k : ∀ j R, (rings (ttA a) (pIA a w) (wlA a w) (nP a))[j]? = some R → mR R = svA a w who (fun p => bl (X p)) p → Q (nI j) h) : M_ringBy (nI r) (nI U) x3 h Q := by
  have h8 := O.1.2.1
  have hG := GW_X O hX
  have eU := rings_U O hX hU
  have inn : ∀ R, (R ∈ rings (ttA a) (pIA a w) (wlA a w) (nP a) ∧ wIn U R = true ∧ ¬ R.2.1 &&& r = 0) ↔ R ∈ rings (ttA a) (pIA a w) (fun p => bl (X p)) (nP a) ∧ Mts (ttA a) (fun p => bl (X p)) p R := fun R => by
    rw [eU, List.mem_filter, ← and_assoc]
    constructor
    · rintro ⟨h1, h2⟩
      exact ⟨h1, (mts_r (rings_ok (ttA a) (pIA a w) (GW_A O w) h1.1).2.2.2.1 hr).mp h2⟩
    · rintro ⟨h1, h2⟩
      exact ⟨h1, (mts_r (rings_ok (ttA a) (pIA a w) (GW_A O w) h1.1).2.2.2.1 hr).mpr h2⟩
  refine m_ringBy rg (RgOK_A O w) (Nat.lt_of_lt_of_le rl (Nat.pow_le_pow_right (by decide) h8)) hwho ?_ (fun j R hj s1 s2 best => k j R hj ?_)
  · obtain ⟨R, q, h1, h2, h3⟩ := ring_ex (ttA a) (pIA a w) hG hp
    exact ⟨R, (inn R).mpr ⟨h1, q, h2, h3⟩⟩
  · have Rm : R ∈ rings (ttA a) (pIA a w) (wlA a w) (nP a) := by
      obtain ⟨a1, a2⟩ := List.getElem?_eq_some_iff.mp hj
      exact a2 ▸ List.getElem_mem a1
    obtain ⟨m1, m2⟩ := (inn R).mp ⟨Rm, s1, s2⟩
    refine (sv_eq (ttA a) (pIA a w) ⟨⟨R, m1, m2, rfl⟩, fun T hT hm => ?_⟩).symm
    obtain ⟨t1, t2, t3⟩ := (inn T).mpr ⟨hT, hm⟩
    exact best T t1 t2 t3
theorem m_allW2 {h : Hp} {Q : Int32 → Hp → Prop} {a : Row} {w : Nat} (O : LandOK a) (e1 : gI h 99 1 = a 1) (z : WaysM h a w) (k : ∀ U, UX a (wys a w) U → Q (nI U) h) : M_allWays h Q := by
  have h8 := O.1.2.1
  unfold M_allWays
  refine pk_loop (σ := Nat) (fun n i s => M_allWays_L4 Q n (nI s) (nI i) h) (fun i s => s < 2 ^ 24 ∧ ∀ e, s.testBit e = true ↔ ∃ q, q < i ∧ (wys a w q).testBit e = true) (nP a) 0 0 (by omega) ⟨by decide, fun e => ⟨fun b => (by rw [Nat.zero_testBit] at b; cases b), fun ⟨q, hq, _⟩ => absurd hq (by omega)⟩⟩ (fun n s J => ?_) (fun n i s hi J hk => ?_)
  · unfold M_allWays_L4
    rw [e1, O.1.2.2]
    exact pk_le (nP a) (nP a) (fun _ => k s J) (fun c => absurd c (by omega))
  · unfold M_allWays_L4
    rw [e1, O.1.2.2]
    refine pk_le (nP a) i (fun c => absurd c (by omega)) (fun _ => ⟨pk_in i 8 (by omega), ?_⟩)
    rw [cl i, ways_w z O hi, z_or]
    rintro _ rfl _ rfl
    rw [nI_1 i]
    refine hk _ ⟨Nat.or_lt_two_pow J.1 (wys_lt O (by omega)).1, fun e => ?_⟩
    rw [Nat.testBit_or, Bool.or_eq_true, J.2]
    constructor
    · rintro (⟨q, hq, hb⟩ | hb)
      · exact ⟨q, by omega, hb⟩
      · exact ⟨i, by omega, hb⟩
    · rintro ⟨q, hq, hb⟩
      by_cases c : q = i
      · subst c; exact Or.inr hb
      · exact Or.inl ⟨q, by omega, hb⟩
