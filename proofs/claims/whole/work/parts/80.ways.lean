/-! ways as lists; how many rings and plans there can be -/
def bl (n : Nat) : List Nat := (List.range 24).filter (fun e => n.testBit e)
theorem mem_bl {n e : Nat} : e ∈ bl n ↔ e < 24 ∧ n.testBit e = true := by
  unfold bl; rw [List.mem_filter, List.mem_range]
def XOK (a : Row) (w : Nat) (X : Nat → Nat) : Prop := ∀ p, p < nP a → X p ≠ 0 ∧ ∀ e, (X p).testBit e = true → (wys a w p).testBit e = true
theorem XOK_w {a : Row} (O : LandOK a) (w : Nat) : XOK a w (wys a w) := fun p hp => ⟨(wys_lt O (by have := O.1.2.1; omega)).2, fun _ h => h⟩
theorem X_lt {a : Row} (O : LandOK a) {w : Nat} {X : Nat → Nat} (hX : XOK a w X) {p : Nat} (hp : p < nP a) : X p < 2 ^ 24 := by
  have h8 := O.1.2.1
  apply Nat.lt_pow_two_of_testBit
  intro i hi
  cases e : (X p).testBit i
  · rfl
  · have := (hX p hp).2 i e
    rw [Nat.testBit_lt_two_pow (Nat.lt_of_lt_of_le (wys_lt O (w := w) (p := p) (by omega)).1 (Nat.pow_le_pow_right (by decide) hi))] at this
    cases this
theorem X_ok {a : Row} (O : LandOK a) {w : Nat} {X : Nat → Nat} (hX : XOK a w X) {p e : Nat} (hp : p < nP a) (he : (X p).testBit e = true) : wayOK a w p e := (wys_tb O).mp ((hX p hp).2 e he)
theorem X_bl {a : Row} (O : LandOK a) {w : Nat} {X : Nat → Nat} (hX : XOK a w X) {p e : Nat} (hp : p < nP a) : e ∈ bl (X p) ↔ (X p).testBit e = true := by
  rw [mem_bl]
  have h8 := O.1.2.1
  exact ⟨fun h => h.2, fun h => ⟨way24 O (by omega) (X_ok O hX hp h), h⟩⟩
theorem GW_X {a : Row} (O : LandOK a) {w : Nat} {X : Nat → Nat} (hX : XOK a w X) : GW (ttA a) (pIA a w) (fun p => bl (X p)) (nP a) := by
  refine ⟨O.1.2.1, fun p hp => ⟨fun h => ?_, fun e he => ?_⟩⟩
  · obtain ⟨j, hj, hb⟩ := tb_ex (hX p hp).1 (X_lt O hX hp)
    have : j ∈ bl (X p) := mem_bl.mpr ⟨hj, hb⟩
    have h : bl (X p) = [] := h
    rw [h] at this; cases this
  · have he := (X_bl O hX hp).mp he
    have ok := X_ok O hX hp he
    exact ⟨ttA_lt O hp ok, ppA_bd a w e, way24 O (by have := O.1.2.1; omega) ok⟩
theorem GW_A {a : Row} (O : LandOK a) (w : Nat) : GW (ttA a) (pIA a w) (wlA a w) (nP a) := GW_X O (XOK_w O w)
/-! products and sums with at most 16 -/
def FTb : List Nat := [1, 1, 2, 3, 4, 6, 9, 12, 18, 27, 36, 54, 81, 108, 162, 243, 324]
def HTb : List Nat := [0, 1, 2, 4, 7, 11, 17, 26, 38, 56, 83, 119, 173, 254, 362, 524, 767]
theorem FT_s : ∀ s, s < 17 → ∀ d, d < 17 → 1 ≤ d → d ≤ s → d * FTb.getD (s - d) 0 ≤ FTb.getD s 0 ∧ d * FTb.getD (s - d) 0 + HTb.getD (s - d) 0 ≤ HTb.getD s 0 := by decide
theorem FT_m : ∀ s, s < 17 → FTb.getD s 0 ≤ 324 ∧ HTb.getD s 0 ≤ 767 := by decide
def gl : List Nat → Nat
  | [] => 1
  | d :: ds => max 1 d * gl ds
def tl : List Nat → Nat
  | [] => 0
  | d :: ds => (if d = 0 then 1 else d * gl ds) + tl ds
def sl : List Nat → Nat
  | [] => 0
  | d :: ds => d + sl ds
theorem gl_pos : ∀ l, 1 ≤ gl l
  | [] => Nat.le_refl _
  | d :: ds => Nat.mul_pos (by omega) (gl_pos ds)
theorem glt : ∀ l, sl l ≤ 16 → gl l ≤ FTb.getD (sl l) 0 ∧ tl l ≤ HTb.getD (sl l) 0 + l.length
  | [], _ => by decide
  | d :: ds, h => by
    have h : d + sl ds ≤ 16 := h
    obtain ⟨i1, i2⟩ := glt ds (by omega)
    show max 1 d * gl ds ≤ FTb.getD (d + sl ds) 0 ∧ (if d = 0 then 1 else d * gl ds) + tl ds ≤ HTb.getD (d + sl ds) 0 + (ds.length + 1)
    by_cases e : d = 0
    · subst e
      rw [if_pos rfl, Nat.zero_add, show max 1 0 = 1 from rfl, Nat.one_mul]
      exact ⟨i1, by omega⟩
    · rw [if_neg e, show max 1 d = d by omega]
      obtain ⟨t1, t2⟩ := FT_s (d + sl ds) (by omega) d (by omega) (by omega) (by omega)
      rw [show d + sl ds - d = sl ds by omega] at t1 t2
      have m : d * gl ds ≤ d * FTb.getD (sl ds) 0 := Nat.mul_le_mul_left d i1
      exact ⟨by omega, by omega⟩
theorem flen {α β : Type} (f : α → List β) (M : Nat) : ∀ l : List α, (∀ x, x ∈ l → (f x).length ≤ M) → (l.flatMap f).length ≤ l.length * M
  | [], _ => Nat.zero_le _
  | x :: l, h => by
    rw [List.flatMap_cons, List.length_append, List.length_cons, Nat.add_mul, Nat.one_mul]
    have := flen f M l (fun y hy => h y (List.mem_cons_of_mem _ hy))
    have := h x List.mem_cons_self
    omega
section COUNT
variable (tt : Nat → Nat) (pp : Nat → Int) (S : Nat → List Nat)
def prL (pl : Nat) : List Nat → Nat
  | [] => 1
  | q :: ls => (if pl.testBit q = true then 1 else (S q).length) * prL pl ls
theorem prL_pos (pl : Nat) : ∀ ls : List Nat, (∀ q, q ∈ ls → 1 ≤ (S q).length) → 1 ≤ prL S pl ls
  | [], _ => Nat.le_refl _
  | q :: ls, h => Nat.mul_pos (by have := h q List.mem_cons_self; split <;> omega) (prL_pos pl ls (fun y hy => h y (List.mem_cons_of_mem _ hy)))
theorem or_tb {pl t q : Nat} : (pl ||| 2 ^ t).testBit q = (pl.testBit q || decide (t = q)) := by
  rw [Nat.testBit_or, Nat.testBit_two_pow]
theorem prL_no {pl t : Nat} : ∀ ls : List Nat, t ∉ ls → prL S (pl ||| 2 ^ t) ls = prL S pl ls
  | [], _ => rfl
  | q :: ls, h => by
    have e : ¬ t = q := fun e => h (e ▸ List.mem_cons_self)
    show (if (pl ||| 2 ^ t).testBit q = true then 1 else (S q).length) * prL S (pl ||| 2 ^ t) ls = _
    rw [prL_no ls (fun m => h (List.mem_cons_of_mem _ m)), or_tb, decide_eq_false e, Bool.or_false]
    rfl
theorem prL_add {pl t : Nat} (hp : pl.testBit t = false) : ∀ ls : List Nat, ls.Nodup → t ∈ ls → prL S pl ls = (S t).length * prL S (pl ||| 2 ^ t) ls
  | [], _, h => by cases h
  | q :: ls, nd, h => by
    obtain ⟨n1, n2⟩ := List.nodup_cons.mp nd
    show (if pl.testBit q = true then 1 else (S q).length) * prL S pl ls = (S t).length * ((if (pl ||| 2 ^ t).testBit q = true then 1 else (S q).length) * prL S (pl ||| 2 ^ t) ls)
    by_cases e : t = q
    · subst e
      rw [prL_no S ls n1, or_tb, decide_eq_true rfl, Bool.or_true, hp, if_neg (by decide), if_pos rfl, Nat.one_mul]
    · rw [prL_add hp ls n2 ((List.mem_cons.mp h).resolve_left e), or_tb, decide_eq_false e, Bool.or_false, Nat.mul_left_comm]
theorem rgs_len {fst P : Nat} {ls : List Nat} (hG : GW tt pp S P) (nd : ls.Nodup) (hls : ∀ q, q ∈ ls ↔ fst < q ∧ q < P) : ∀ {d p ws pl : Nat} {pay : Int} {n : Nat}, p < P → (rgs tt pp S fst d p ws pl pay n).length ≤ (S p).length * prL S pl ls
  | 0, p, ws, pl, pay, n, _ => Nat.zero_le _
  | d + 1, p, ws, pl, pay, n, hp => by
    have pos : ∀ pl, 1 ≤ prL S pl ls := fun pl => prL_pos S pl ls (fun q hq => by
      have := (hG.2 q ((hls q).mp hq).2).1
      exact List.length_pos_iff.mpr this)
    show ((S p).flatMap _).length ≤ _
    refine flen _ _ _ (fun e he => ?_)
    have te := ((hG.2 p hp).2 e he).1
    by_cases c : tt e = fst
    · rw [if_pos c]; exact pos pl
    · rw [if_neg c]
      by_cases c2 : fst < tt e ∧ pl.testBit (tt e) = false
      · rw [if_pos c2, prL_add S c2.2 ls nd ((hls _).mpr ⟨c2.1, te⟩)]
        exact rgs_len hG nd hls te
      · rw [if_neg c2]; exact Nat.zero_le _
theorem prL_gl {dd : Nat → Nat} {pl : Nat} : ∀ ls : List Nat, (∀ q, q ∈ ls → pl.testBit q = false ∧ (S q).length = max 1 (dd q)) → prL S pl ls = gl (ls.map dd)
  | [], _ => rfl
  | q :: ls, h => by
    obtain ⟨h1, h2⟩ := h q List.mem_cons_self
    show (if pl.testBit q = true then 1 else (S q).length) * prL S pl ls = max 1 (dd q) * gl (ls.map dd)
    rw [prL_gl ls (fun y hy => h y (List.mem_cons_of_mem _ hy)), h1, if_neg (by decide), h2]
theorem rings_len {P : Nat} {dd : Nat → Nat} (hG : GW tt pp S P) (hd : ∀ q, q < P → (S q).length = max 1 (dd q)) (h0 : ∀ q, q < P → dd q = 0 → ∃ e, S q = [e] ∧ tt e = q) : ∀ k lo, lo + k = P → ((List.range' lo k).flatMap (fun p => rgs tt pp S p 9 p 0 (2 ^ p) 0 0)).length ≤ tl ((List.range' lo k).map dd)
  | 0, lo, _ => Nat.le_refl _
  | k + 1, lo, h => by
    have ih := rings_len hG hd h0 k (lo + 1) (by omega)
    rw [List.range'_succ, List.flatMap_cons, List.length_append, List.map_cons]
    show _ ≤ (if dd lo = 0 then 1 else dd lo * gl ((List.range' (lo + 1) k).map dd)) + tl ((List.range' (lo + 1) k).map dd)
    have one : (rgs tt pp S lo 9 lo 0 (2 ^ lo) 0 0).length ≤ (if dd lo = 0 then 1 else dd lo * gl ((List.range' (lo + 1) k).map dd)) := by
      by_cases e : dd lo = 0
      · rw [if_pos e]
        obtain ⟨x, hx, ht⟩ := h0 lo (by omega) e
        show ((S lo).flatMap _).length ≤ 1
        rw [hx, List.flatMap_cons, if_pos ht]
        exact Nat.le_refl _
      · rw [if_neg e]
        have := rgs_len tt pp S (fst := lo) (ls := List.range' (lo + 1) k) hG (List.nodup_range' ) (fun q => by rw [List.mem_range'_1]; omega) (d := 9) (p := lo) (ws := 0) (pl := 2 ^ lo) (pay := 0) (n := 0) (by omega)
        rw [prL_gl S (dd := dd) (List.range' (lo + 1) k) (fun q hq => by
          rw [List.mem_range'_1] at hq
          exact ⟨by rw [Nat.testBit_two_pow, decide_eq_false_iff_not]; omega, hd q (by omega)⟩), hd lo (by omega), show max 1 (dd lo) = dd lo by omega] at this
        exact this
    omega
end COUNT
theorem pls_len {own : Nat → Bool} {A : Nat → List Nat} {dd : Nat → Nat} : ∀ {k p : Nat} {S : Nat → List Nat}, (∀ q, p ≤ q → q < p + k → (A q).length = max 1 (dd q)) → (pls own A k p S).length ≤ gl ((List.range' p k).map dd)
  | 0, p, S, _ => Nat.le_refl _
  | k + 1, p, S, h => by
    have ih : ∀ S, (pls own A k (p + 1) S).length ≤ gl ((List.range' (p + 1) k).map dd) := fun S => pls_len (fun q h1 h2 => h q (by omega) (by omega))
    have ep := h p (by omega) (by omega)
    rw [List.range'_succ, List.map_cons]
    show (if own p then (A p).flatMap (fun e => pls own A k (p + 1) (upS S p e)) else pls own A k (p + 1) S).length ≤ max 1 (dd p) * gl ((List.range' (p + 1) k).map dd)
    by_cases o : own p = true
    · rw [if_pos o, ← ep]
      exact flen _ _ _ (fun e _ => ih _)
    · rw [if_neg o]
      exact Nat.le_trans (ih S) (Nat.le_mul_of_pos_left _ (by omega))
/-! the open roads are at most 16 -/
def dA (a : Row) (w p : Nat) : Nat := smN (fun r => if (obs a w p).testBit r = true then 1 else 0) 16
theorem flt_len (f : Nat → Bool) : ∀ n, ((List.range n).filter f).length = smN (fun r => if f r = true then 1 else 0) n
  | 0 => rfl
  | n + 1 => by
    rw [List.range_succ, List.filter_append, List.length_append, flt_len f n]
    show smN (fun r => if f r = true then 1 else 0) n + _ = smN (fun r => if f r = true then 1 else 0) n + (if f n = true then 1 else 0)
    congr 1
    cases e : f n <;> simp [e]
theorem sl_rng (f : Nat → Nat) : ∀ k lo, sl ((List.range' lo k).map f) = smN (fun i => f (lo + i)) k
  | 0, _ => rfl
  | k + 1, lo => by
    rw [List.range'_succ, List.map_cons]
    show f lo + sl ((List.range' (lo + 1) k).map f) = smN (fun i => f (lo + i)) (k + 1)
    rw [sl_rng f k (lo + 1), show k + 1 = 1 + k by omega, smN_app (fun i => f (lo + i)) 1 k]
    show _ = (0 + f (lo + 0)) + _
    rw [Nat.zero_add, Nat.add_zero]
    congr 1
    exact smN_ext (fun i _ => by rw [Nat.add_assoc])
theorem dA_sum (a : Row) (w P : Nat) : smN (fun p => dA a w p) P ≤ 16 := by
  unfold dA
  rw [smN_comm (fun p r => if (obs a w p).testBit r = true then 1 else 0) 16 P]
  have : ∀ r, r < 16 → smN (fun p => if (obs a w p).testBit r = true then 1 else 0) P ≤ 1 := fun r _ => by
    by_cases c : fromA a r < P
    · rw [smN_one (i0 := fromA a r) c (fun p _ hn => if_neg (fun e => hn (obs_tb.mp e).2.1.symm))]
      split <;> omega
    · rw [smN_z (fun p hp => if_neg (fun e => c (by rw [(obs_tb.mp e).2.1]; exact hp)))]; omega
  exact Nat.le_trans (smN_le this) (by decide)
theorem wl_len {a : Row} (O : LandOK a) {w p : Nat} (hp : p < 8) : (wlA a w p).length = max 1 (dA a w p) ∧ (dA a w p = 0 → wlA a w p = [16 + p] ∧ ttA a (16 + p) = p) := by
  have ol := obs_lt O w p
  by_cases z : obs a w p = 0
  · have d0 : dA a w p = 0 := by
      unfold dA; rw [z]
      exact smN_z (fun r _ => if_neg (by rw [Nat.zero_testBit]; decide))
    have e : wlA a w p = [16 + p] := by
      have ew : wys a w p = 2 ^ (16 + p) := if_pos z
      unfold wlA
      rw [ew]
      have : ∀ p, p < 8 → (List.range 24).filter (fun e => Nat.testBit (2 ^ (16 + p)) e) = [16 + p] := by decide
      exact this p hp
    rw [d0, e]
    refine ⟨rfl, fun _ => ⟨rfl, ?_⟩⟩
    unfold ttA
    rw [if_neg (by omega)]; omega
  · have ew : wys a w p = obs a w p := if_neg z
    have el : (wlA a w p).length = dA a w p := by
      unfold wlA dA
      rw [ew, flt_len, show 24 = 16 + 8 from rfl, smN_app, smN_z (f := fun t => if (obs a w p).testBit (16 + t) = true then 1 else 0) (fun i _ => if_neg (by rw [Nat.testBit_lt_two_pow (Nat.lt_of_lt_of_le ol (Nat.pow_le_pow_right (by decide) (by omega)))]; decide)), Nat.add_zero]
    have pos : 0 < dA a w p := by
      rw [← el]
      obtain ⟨j, hj, hb⟩ := tb_ex z ol
      refine List.length_pos_of_mem (a := j) ?_
      unfold wlA
      rw [List.mem_filter, List.mem_range, ew]
      exact ⟨by omega, hb⟩
    rw [el]
    exact ⟨by omega, fun h => by omega⟩
theorem rings_1024 {a : Row} (O : LandOK a) (w : Nat) : (rings (ttA a) (pIA a w) (wlA a w) (nP a)).length < 1024 := by
  have h8 := O.1.2.1
  have := rings_len (ttA a) (pIA a w) (wlA a w) (dd := dA a w) (GW_A O w) (fun q hq => (wl_len O (by omega)).1) (fun q hq h => ⟨16 + q, (wl_len O (by omega)).2 h⟩) (nP a) 0 (by omega)
  rw [← List.range_eq_range'] at this
  have s : sl ((List.range (nP a)).map (dA a w)) ≤ 16 := by
    rw [List.range_eq_range', sl_rng, show (fun i => dA a w (0 + i)) = (fun p => dA a w p) from funext (fun i => by rw [Nat.zero_add])]
    exact dA_sum a w _
  have g := (glt _ s).2
  have m := (FT_m _ (Nat.lt_succ_of_le s)).2
  rw [List.length_map, List.length_range] at g
  have e : (rings (ttA a) (pIA a w) (wlA a w) (nP a)).length = ((List.range (nP a)).flatMap (fun p => rgs (ttA a) (pIA a w) (wlA a w) p 9 p 0 (2 ^ p) 0 0)).length := rfl
  omega
theorem plans_324 {a : Row} (O : LandOK a) (w who : Nat) : (PLA a w who).length ≤ 324 := by
  have h8 := O.1.2.1
  have := pls_len (own := ownB (mnA a) who) (A := wlA a w) (dd := dA a w) (k := nP a) (p := 0) (S := wlA a w) (fun q _ hq => (wl_len O (by omega)).1)
  have s : sl ((List.range' 0 (nP a)).map (dA a w)) ≤ 16 := by
    rw [sl_rng, show (fun i => dA a w (0 + i)) = (fun p => dA a w p) from funext (fun i => by rw [Nat.zero_add])]
    exact dA_sum a w _
  have g := (glt _ s).1
  have m := (FT_m _ (Nat.lt_succ_of_le s)).1
  exact Nat.le_trans this (Nat.le_trans g m)
