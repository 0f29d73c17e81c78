/-! the reference's rings -/
def RgM (h : Hp) (l : List Rg) : Prop := gI h 98 28 = nI l.length ∧ ∀ k R, l[k]? = some R → gI h 110 k = nI R.1 ∧ gI h 111 k = nI R.2.1 ∧ gI h 112 k = Int32.ofInt R.2.2.1 ∧ gI h 113 k = nI R.2.2.2
def oGr : Nat → Nat → Bool := fun o k => (o == 98 && k == 28) || (decide (110 ≤ o) && decide (o ≤ 113))
theorem oGr_W (o k : Nat) (h1 : 105 ≤ o) (h2 : o ≤ 108) : oGr o k = false := by
  simp only [oGr, Bool.or_eq_false_iff, Bool.and_eq_false_iff, beq_eq_false_iff_ne, decide_eq_false_iff_not]; omega
theorem scM_Gr (o k : Nat) (h : scM o k = false) : oGr o k = false := by
  cases e : oGr o k
  · rfl
  · simp only [oGr, Bool.or_eq_true, Bool.and_eq_true, beq_iff_eq, decide_eq_true_iff] at e
    rcases e with ⟨rfl, rfl⟩ | ⟨e1, e2⟩
    · cases h
    · simp only [scM, Bool.or_eq_false_iff, Bool.and_eq_false_iff, decide_eq_false_iff_not] at h; omega
theorem RgM_k {h h1 : Hp} {l : List Rg} {S : Nat → Nat → Bool} (r : RgM h l) (F : Fp S h h1) (hS : ∀ o k, (o = 98 ∧ k = 28) ∨ (110 ≤ o ∧ o ≤ 113) → S o k = false) : RgM h1 l :=
  ⟨(F.1 98 28 (hS _ _ (Or.inl ⟨rfl, rfl⟩))).trans r.1, fun k R hk => by
    rw [F.1 110 k (hS _ _ (Or.inr (by omega))), F.1 111 k (hS _ _ (Or.inr (by omega))), F.1 112 k (hS _ _ (Or.inr (by omega))), F.1 113 k (hS _ _ (Or.inr (by omega)))]
    exact r.2 k R hk⟩
theorem ways_w {h : Hp} {a : Row} {w p : Nat} (z : WaysM h a w) (O : LandOK a) (hp : p < nP a) : gI h 108 p = nI (wys a w p) := by
  rw [z.1 p (by have := O.1.2.1; omega), if_pos hp]
theorem ways_f {h : Hp} {a : Row} {w p e : Nat} (z : WaysM h a w) (hp : p < nP a) (we : wayOK a w p e) : gI h 105 e = nI p := by
  rcases we with ⟨h1, h2, h3, _⟩ | ⟨_, rfl⟩
  · rw [(z.2.1 e h2).1, h3]
  · exact (z.2.2 p hp).1
theorem rng_spl {i n : Nat} (h : i ≤ n) : List.range n = List.range i ++ List.range' i (n - i) := by
  have := List.range'_append_1 (s := 0) (m := i) (n := n - i)
  rw [Nat.zero_add, show i + (n - i) = n by omega] at this
  rw [List.range_eq_range', List.range_eq_range', this]
theorem m_goesRing {a : Row} {w fst : Nat} (O : LandOK a) : ∀ (d n p pl ws : Nat) (pay : Int) (h0 : Hp) (l : List Rg) (Q : Hp → Prop), d + n = 9 → p < nP a → pl < 2 ^ nP a → n + 1 ≤ cn8 pl → (-99 * (n : Int) ≤ pay ∧ pay ≤ 99 * (n : Int)) → ws < 2 ^ 24 → fst < nP a → WaysM h0 a w → RgM h0 l → (l ++ rgs (ttA a) (pIA a w) (fun p => bl (wys a w p)) fst d p ws pl pay n).length ≤ 1024 → (∀ h1, Fp oGr h0 h1 → RgM h1 (l ++ rgs (ttA a) (pIA a w) (fun p => bl (wys a w p)) fst d p ws pl pay n) → Q h1) → M_goesRing (d + 1) (nI fst) (nI p) (nI ws) (nI pl) (Int32.ofInt pay) (nI n) h0 Q := by
  have h8 := O.1.2.1
  intro d
  induction d with
  | zero =>
    intro n p pl ws pay h0 l Q hd hp hpl hn
    have := cn8_le pl
    omega
  | succ d ih =>
    intro n p pl ws pay h0 l Q hd hp hpl hn hpay hws hf z0 r0 len k
    have c8 := cn8_le pl
    have wl := (wys_lt O (w := w) (p := p) (by omega)).1
    have pl31 : pl < 2 ^ 31 := Nat.lt_of_lt_of_le hpl (Nat.pow_le_pow_right (by decide) (by omega))
    rw [rgs_bdy] at len k
    show M_goesRing_B (M_goesRing (d + 1)) _ _ _ _ _ _ _ _
    unfold M_goesRing_B
    refine pk_loop (σ := Hp) (fun n' i h => M_goesRing_L3 (nI fst) (nI p) (nI ws) (nI pl) (Int32.ofInt pay) (nI n) (M_goesRing (d + 1)) Q n' (nI i) h) (fun i h => Fp oGr h0 h ∧ RgM h (l ++ ((List.range i).filter (fun e => (wys a w p).testBit e)).flatMap (bdy a w (wys a w) fst d ws pl pay n))) 24 0 h0 (by omega) ⟨Fp.rf _ _, by simpa using r0⟩ (fun n' h1 J => ?_) (fun n' i h hi J hk => ?_)
    · unfold M_goesRing_L3
      exact pk_le 24 24 (fun _ => k h1 J.1 J.2) (fun c => absurd c (by omega))
    · obtain ⟨F, r⟩ := J
      have z := ways_k F oGr_W z0
      unfold M_goesRing_L3
      refine pk_le 24 i (fun c => absurd c (by omega)) (fun _ => ⟨pk_in p 8 (by omega), ?_⟩)
      rw [cl p, ways_w z O hp]
      refine s_isIn (by omega) (by omega) ?_
      rintro J165 rfl
      by_cases b : (wys a w p).testBit i = true
      · rw [if_pos b]
        refine brF' (by decide) ⟨pk_in i 24 hi, ?_⟩
        have we : wayOK a w p i := (wys_tb O).mp b
        obtain ⟨w6, w7⟩ := ways_e z hp we
        have tl := ttA_lt O hp we
        have pb := ppA_bd a w i
        have pe : (ppA a w i).toInt = pIA a w i := rfl
        have ev : Int32.ofInt pay + ppA a w i = Int32.ofInt (pay + pIA a w i) := by
          rw [Int32.ofInt_add, ← pe, Int32.ofInt_toInt]
        obtain ⟨L, hL⟩ : ∃ L, l ++ ((List.range i).filter (fun e => (wys a w p).testBit e)).flatMap (bdy a w (wys a w) fst d ws pl pay n) = L := ⟨_, rfl⟩
        rw [hL] at r
        have nx : l ++ ((List.range (i + 1)).filter (fun e => (wys a w p).testBit e)).flatMap (bdy a w (wys a w) fst d ws pl pay n) = L ++ bdy a w (wys a w) fst d ws pl pay n i := by
          rw [pre_s, if_pos b, List.flatMap_append, ← List.append_assoc, hL, List.flatMap_cons, List.flatMap_nil, List.append_nil]
        have all : ∃ rest, bl (wys a w p) = (List.range (i + 1)).filter (fun e => (wys a w p).testBit e) ++ rest := by
          refine ⟨(List.range' (i + 1) (24 - (i + 1))).filter (fun e => (wys a w p).testBit e), ?_⟩
          unfold bl
          rw [← List.filter_append, ← rng_spl (show i + 1 ≤ 24 by omega)]
        have lenN : (L ++ bdy a w (wys a w) fst d ws pl pay n i).length ≤ 1024 := by
          obtain ⟨rest, hr⟩ := all
          rw [hr, List.flatMap_append, ← List.append_assoc, nx, List.length_append] at len
          omega
        have go : ∀ h2 : Hp, Fp oGr h h2 → RgM h2 (L ++ bdy a w (wys a w) fst d ws pl pay n i) → ∀ v4 : Int32, v4 = (nI i + 1) → M_goesRing_L3 (nI fst) (nI p) (nI ws) (nI pl) (Int32.ofInt pay) (nI n) (M_goesRing (d + 1)) Q n' v4 h2 := by
          rintro h2 F2 r2 _ rfl
          rw [nI_1 i]
          refine hk h2 ⟨F.tr F2, ?_⟩
          rw [nx]; exact r2
        rw [cl i, w6]
        rintro _ rfl
        have te : nI (ttA a i) = nI fst ↔ ttA a i = fst := nI_eq (by omega) (by omega)
        rw [te]
        refine ⟨fun c => pk_le (ttA a i) fst (fun c2 => ?_) (fun c2 => ?_), fun c => ?_⟩
        · refine go h (Fp.rf _ _) ?_
          unfold bdy
          rw [if_neg c, if_neg (fun z => by omega), List.append_nil]; exact r
        · refine s_isIn pl31 (by omega) ?_
          by_cases c3 : pl.testBit (ttA a i) = true
          · rw [if_pos c3]
            refine brF' (by decide) (go h (Fp.rf _ _) ?_)
            unfold bdy
            rw [if_neg c, if_neg (fun z => by rw [c3] at z; exact absurd z.2 (by decide)), List.append_nil]; exact r
          · rw [if_neg c3]
            have c3' : pl.testBit (ttA a i) = false := Bool.eq_false_iff.mpr c3
            refine brT' rfl ⟨pk_in i 24 hi, ?_⟩
            rw [w7, ev, z_1 i (by omega), z_1 (ttA a i) (by omega), z_or, z_or, nI_1 n]
            have eb : bdy a w (wys a w) fst d ws pl pay n i = rgs (ttA a) (pIA a w) (fun p => bl (wys a w p)) fst d (ttA a i) (ws ||| 2 ^ i) (pl ||| 2 ^ (ttA a i)) (pay + pIA a w i) (n + 1) := by
              unfold bdy
              rw [if_neg c, if_pos ⟨c2, c3'⟩]
            rw [eb] at go lenN
            refine ih (n + 1) (ttA a i) (pl ||| 2 ^ ttA a i) (ws ||| 2 ^ i) (pay + pIA a w i) h L _ (by omega) tl (or_lt8 hpl tl) ?_ (by omega) (Nat.or_lt_two_pow hws (Nat.pow_lt_pow_right (by decide) hi)) hf z r lenN go
            have := cn8_add (n := pl) (q := ttA a i) (by omega) c3'
            omega
        · have eb : bdy a w (wys a w) fst d ws pl pay n i = [(ws ||| 2 ^ i, pl, pay + pIA a w i, n + 1)] := by
            unfold bdy
            rw [if_pos c]
          rw [eb] at go lenN
          rw [List.length_append, List.length_singleton] at lenN
          obtain ⟨N, hN⟩ : ∃ N, L.length = N := ⟨_, rfl⟩
          rw [hN] at lenN
          have r1 : gI h 98 28 = nI N := by rw [r.1, hN]
          have in1 : vp_in (nI N) 1024 := pk_in N 1024 (by omega)
          have cN : (nI N).toNatClampNeg = N := cl N
          rw [r1]
          refine ⟨in1, ?_⟩
          rintro _ rfl
          rw [sI_o (by decide), r1]
          refine ⟨in1, ?_⟩
          rintro _ rfl
          simp only [sI_o (show (98 : Nat) ≠ 110 by decide), sI_o (show (98 : Nat) ≠ 111 by decide), sI_o (show (107 : Nat) ≠ 110 by decide), sI_o (show (107 : Nat) ≠ 111 by decide), r1, w7]
          refine ⟨pk_in i 24 hi, in1, ?_⟩
          rintro _ rfl
          simp only [sI_o (show (98 : Nat) ≠ 110 by decide), sI_o (show (98 : Nat) ≠ 111 by decide), sI_o (show (98 : Nat) ≠ 112 by decide), r1]
          refine ⟨in1, ?_⟩
          rintro _ rfl
          simp only [sI_o (show (98 : Nat) ≠ 110 by decide), sI_o (show (98 : Nat) ≠ 111 by decide), sI_o (show (98 : Nat) ≠ 112 by decide), sI_o (show (98 : Nat) ≠ 113 by decide), r1]
          rintro _ rfl
          rw [cN, nI_1 N, nI_1 n, ev, z_1 i (by omega), z_or]
          refine go _ ?_ ⟨?_, fun j R hj => ?_⟩
          · exact Fp.sI (Fp.sI (Fp.sI (Fp.sI (Fp.sI (Fp.rf _ _) rfl) rfl) rfl) rfl) rfl
          · rw [sI_s, List.length_append, hN]; rfl
          · simp only [sI_o (show (110 : Nat) ≠ 98 by decide), sI_o (show (111 : Nat) ≠ 98 by decide), sI_o (show (112 : Nat) ≠ 98 by decide), sI_o (show (113 : Nat) ≠ 98 by decide), sI_o (show (110 : Nat) ≠ 111 by decide), sI_o (show (110 : Nat) ≠ 112 by decide), sI_o (show (110 : Nat) ≠ 113 by decide), sI_o (show (111 : Nat) ≠ 110 by decide), sI_o (show (111 : Nat) ≠ 112 by decide), sI_o (show (111 : Nat) ≠ 113 by decide), sI_o (show (112 : Nat) ≠ 110 by decide), sI_o (show (112 : Nat) ≠ 111 by decide), sI_o (show (112 : Nat) ≠ 113 by decide), sI_o (show (113 : Nat) ≠ 110 by decide), sI_o (show (113 : Nat) ≠ 111 by decide), sI_o (show (113 : Nat) ≠ 112 by decide)]
            by_cases e : j = N
            · subst e
              rw [← hN, List.getElem?_append_right (Nat.le_refl _), Nat.sub_self] at hj
              have hj : some _ = some R := hj
              have hj := Option.some.inj hj
              subst hj
              rw [sI_s, sI_s, sI_s, sI_s]
              exact ⟨rfl, rfl, rfl, rfl⟩
            · simp only [sI_k e]
              have jl : j < L.length := by
                have := (List.getElem?_eq_some_iff.mp hj).1
                rw [List.length_append, List.length_singleton] at this
                omega
              rw [List.getElem?_append_left jl] at hj
              exact r.2 j R hj
      · rw [if_neg b]
        refine brT' rfl ?_
        rintro _ rfl
        rw [nI_1 i]
        refine hk h ⟨F, ?_⟩
        rw [pre_s, if_neg b, List.append_nil]; exact r
theorem m_laysRings {h : Hp} {Q : Hp → Prop} {a : Row} {w : Nat} (O : LandOK a) (h99 : ∀ j, gI h 99 j = a j) (ew : a 61 = nI w) (k : ∀ h1, Fp scM h h1 → (∀ j, gI h1 99 j = a j) → WaysM h1 a w → RgM h1 (rings (ttA a) (pIA a w) (wlA a w) (nP a)) → Q h1) : M_laysRings h Q := by
  have h8 := O.1.2.1
  unfold M_laysRings
  refine s_laysWays O h99 ew (fun h1 f1 z1 => ?_)
  rintro _ rfl
  have F1 : Fp scM h (sI h1 98 28 0) := Fp.sI (f1.fp scM_W) rfl
  have Z1 : WaysM (sI h1 98 28 0) a w := ways_k (Fp.sI (Fp.rf oGr h1) rfl) oGr_W z1
  have key : ∀ i, i < nP a → ((List.range i).flatMap (fun p => rgs (ttA a) (pIA a w) (fun p => bl (wys a w p)) p 9 p 0 (2 ^ p) 0 0) ++ rgs (ttA a) (pIA a w) (fun p => bl (wys a w p)) i 9 i 0 (2 ^ i) 0 0).length ≤ 1024 := fun i hi => by
    have t := rings_1024 O w
    have e : rings (ttA a) (pIA a w) (wlA a w) (nP a) = (List.range i).flatMap (fun p => rgs (ttA a) (pIA a w) (fun p => bl (wys a w p)) p 9 p 0 (2 ^ p) 0 0) ++ (List.range' i (nP a - i)).flatMap (fun p => rgs (ttA a) (pIA a w) (fun p => bl (wys a w p)) p 9 p 0 (2 ^ p) 0 0) := by
      rw [← List.flatMap_append, ← rng_spl (show i ≤ nP a by omega)]
      rfl
    rw [e, show nP a - i = (nP a - i - 1) + 1 by omega, List.range'_succ, List.flatMap_cons, ← List.append_assoc, List.length_append] at t
    omega
  refine pk_loop (σ := Hp) (fun n i h' => M_laysRings_L11 Q n (nI i) h') (fun i h' => Fp scM h h' ∧ WaysM h' a w ∧ RgM h' ((List.range i).flatMap (fun p => rgs (ttA a) (pIA a w) (fun p => bl (wys a w p)) p 9 p 0 (2 ^ p) 0 0))) (nP a) 0 _ (by omega) ⟨F1, Z1, by rw [sI_s]; rfl, fun k R hk => by cases hk⟩ (fun n h2 J => ?_) (fun n i h' hi J hk => ?_)
  · obtain ⟨F, Z, r⟩ := J
    have g99 : ∀ j, gI h2 99 j = a j := fun j => (F.1 99 j rfl).trans (h99 j)
    unfold M_laysRings_L11
    rw [g99, O.1.2.2]
    exact pk_le (nP a) (nP a) (fun _ => k h2 F g99 Z r) (fun c => absurd c (by omega))
  · obtain ⟨F, Z, r⟩ := J
    have g99 : ∀ j, gI h' 99 j = a j := fun j => (F.1 99 j rfl).trans (h99 j)
    unfold M_laysRings_L11
    rw [g99, O.1.2.2]
    refine pk_le (nP a) i (fun c => absurd c (by omega)) (fun _ => ?_)
    rw [z_1 i (by omega)]
    have := m_goesRing (a := a) (w := w) (fst := i) O 9 0 i (2 ^ i) 0 0 h' _ (fun h3 => ∀ v4 : Int32, v4 = (nI i + 1) → M_laysRings_L11 Q n v4 h3) rfl hi (Nat.pow_lt_pow_right (by decide) hi) (by rw [cn8_1 i (by omega)]; omega) ⟨by omega, by omega⟩ (by decide) hi Z r (key i hi) (fun h3 F3 r3 => ?_)
    · exact this
    · rintro _ rfl
      rw [nI_1 i]
      refine hk h3 ⟨F.tr (F3.mo scM_Gr), ways_k F3 oGr_W Z, ?_⟩
      rw [List.range_succ, List.flatMap_append, List.flatMap_cons, List.flatMap_nil, List.append_nil]; exact r3
