/-! plans as sets, one after the other -/
def upX (X : Nat → Nat) (p n : Nat) : Nat → Nat := fun q => if q = p then n else X q
theorem upX_s (X : Nat → Nat) (p n : Nat) : upX X p n p = n := if_pos rfl
theorem upX_n {X : Nat → Nat} {p n q : Nat} (h : q ≠ p) : upX X p n q = X q := if_neg h
theorem upX_up (X : Nat → Nat) (p n m : Nat) : upX (upX X p n) p m = upX X p m := by
  funext q
  by_cases c : q = p
  · subst c; rw [upX_s, upX_s]
  · rw [upX_n c, upX_n c, upX_n c]
theorem upX_cm {X : Nat → Nat} {p q n m : Nat} (h : p ≠ q) : upX (upX X p n) q m = upX (upX X q m) p n := by
  funext x
  by_cases c : x = p
  · subst c; rw [upX_n h, upX_s, upX_s]
  · by_cases d : x = q
    · subst d; rw [upX_s, upX_n c, upX_s]
    · rw [upX_n d, upX_n c, upX_n c, upX_n d]
def abv (n e : Nat) : Nat := bset (fun x => n.testBit x && decide (e < x)) 24
theorem abv_tb {n e x : Nat} : (abv n e).testBit x = true ↔ x < 24 ∧ n.testBit x = true ∧ e < x := by
  unfold abv; rw [bset_tb]; simp
theorem bl_pw (n : Nat) : (bl n).Pairwise (· < ·) := List.Pairwise.filter _ List.pairwise_lt_range
theorem bl_after {n e : Nat} {pre rest : List Nat} (h : bl n = pre ++ e :: rest) : ∀ x, (abv n e).testBit x = true ↔ x ∈ rest := by
  have pw := bl_pw n
  rw [h, List.pairwise_append] at pw
  obtain ⟨_, p2, p3⟩ := pw
  rw [List.pairwise_cons] at p2
  intro x
  rw [abv_tb]
  constructor
  · rintro ⟨h1, h2, h3⟩
    have m : x ∈ bl n := mem_bl.mpr ⟨h1, h2⟩
    rw [h] at m
    rcases List.mem_append.mp m with c | c
    · have := p3 x c e List.mem_cons_self; omega
    · rcases List.mem_cons.mp c with c | c
      · omega
      · exact c
  · intro m
    have lt := p2.1 x m
    have mm : x ∈ bl n := by rw [h]; exact List.mem_append_right _ (List.mem_cons_of_mem _ m)
    obtain ⟨h1, h2⟩ := mem_bl.mp mm
    exact ⟨h1, h2, lt⟩
theorem bl_next {n e e' : Nat} {pre rest : List Nat} (h : bl n = pre ++ e :: e' :: rest) : abv n e ≠ 0 ∧ low (abv n e) = e' := by
  have a := bl_after h
  have b : (abv n e).testBit e' = true := (a e').mpr List.mem_cons_self
  have e24 : e' < 24 := (abv_tb.mp b).1
  refine ⟨fun z => (by rw [z, Nat.zero_testBit] at b; cases b), low_of b (by omega) (fun i hi => ?_)⟩
  cases c : (abv n e).testBit i
  · rfl
  · have m := (a i).mp c
    have pw := bl_pw n
    rw [h, List.pairwise_append] at pw
    have p2 := pw.2.1
    rw [List.pairwise_cons, List.pairwise_cons] at p2
    rcases List.mem_cons.mp m with d | d
    · omega
    · have := p2.2.1 i d; omega
theorem bl_last {n e : Nat} {pre : List Nat} (h : bl n = pre ++ [e]) : abv n e = 0 := by
  apply Nat.eq_of_testBit_eq
  intro x
  rw [Nat.zero_testBit, Bool.eq_false_iff]
  intro c
  have := (bl_after h x).mp c
  cases this
theorem bl_hd {n : Nat} (h0 : n ≠ 0) (hn : n < 2 ^ 24) : ∃ t, bl n = low n :: t := by
  obtain ⟨j, hj, hb⟩ := tb_ex h0 hn
  have m : j ∈ bl n := mem_bl.mpr ⟨hj, hb⟩
  match hl : bl n, m with
  | e :: t, _ =>
    have pw := bl_pw n
    rw [hl, List.pairwise_cons] at pw
    have me : e ∈ bl n := by rw [hl]; exact List.mem_cons_self
    obtain ⟨e1, e2⟩ := mem_bl.mp me
    refine ⟨t, ?_⟩
    rw [low_of e2 (by omega) (fun i hi => ?_)]
    cases c : n.testBit i
    · rfl
    · have mi : i ∈ bl n := mem_bl.mpr ⟨by omega, c⟩
      rw [hl] at mi
      rcases List.mem_cons.mp mi with d | d
      · omega
      · have := pw.1 i d; omega
theorem bl_pow {e : Nat} (he : e < 24) : bl (2 ^ e) = [e] := by
  have : ∀ e, e < 24 → (List.range 24).filter (fun x => Nat.testBit (2 ^ e) x) = [e] := by decide
  exact this e he
theorem low_pow {e : Nat} (he : e < 32) : low (2 ^ e) = e := low_of Nat.testBit_two_pow_self he (fun i hi => by rw [Nat.testBit_two_pow, decide_eq_false_iff_not]; omega)
/-! a chain of steps -/
def chT {α : Type} (step : α → α × Bool) : List α → α × Bool → Prop
  | [], _ => False
  | [Y], E => step Y = E
  | Y :: Z :: l, E => step Y = (Z, true) ∧ chT step (Z :: l) E
theorem chT_app {α : Type} {step : α → α × Bool} {Z : α} {l2 : List α} {E : α × Bool} (h2 : chT step (Z :: l2) E) : ∀ {l1 : List α}, chT step l1 (Z, true) → chT step (l1 ++ Z :: l2) E
  | [], h => h.elim
  | [Y], h => ⟨h, h2⟩
  | Y :: Y' :: l, h => ⟨h.1, chT_app h2 (l1 := Y' :: l) h.2⟩
theorem chT_mono {α : Type} {s1 s2 : α → α × Bool} {E1 E2 : α × Bool} : ∀ {l : List α}, (∀ Y, Y ∈ l → ∀ Z, s1 Y = (Z, true) → s2 Y = (Z, true)) → (∀ Y, Y ∈ l → s1 Y = E1 → s2 Y = E2) → chT s1 l E1 → chT s2 l E2
  | [], _, _, h => h.elim
  | [Y], _, k, h => k Y List.mem_cons_self h
  | Y :: Y' :: l, m, k, h => ⟨m Y List.mem_cons_self Y' h.1, chT_mono (l := Y' :: l) (fun Z hZ => m Z (List.mem_cons_of_mem _ hZ)) (fun Z hZ => k Z (List.mem_cons_of_mem _ hZ)) h.2⟩
section PLX
variable (own : Nat → Bool) (A : Nat → Nat)
def plx : Nat → Nat → (Nat → Nat) → List (Nat → Nat)
  | 0, _, X => [X]
  | k + 1, p, X => if own p = true then (bl (A p)).flatMap (fun e => plx k (p + 1) (upX X p (2 ^ e))) else plx k (p + 1) X
def fsX : Nat → Nat → (Nat → Nat) → (Nat → Nat)
  | 0, _, X => X
  | k + 1, p, X => if own p = true then fsX k (p + 1) (upX X p (2 ^ low (A p))) else fsX k (p + 1) X
def nxt : Nat → Nat → (Nat → Nat) → (Nat → Nat) × Bool
  | 0, _, Y => (Y, false)
  | k + 1, p, Y => if (nxt k (p + 1) Y).2 = true then nxt k (p + 1) Y else if own p = true then (if abv (A p) (low (Y p)) = 0 then (upX (nxt k (p + 1) Y).1 p (2 ^ low (A p)), false) else (upX (nxt k (p + 1) Y).1 p (2 ^ low (abv (A p) (low (Y p)))), true)) else nxt k (p + 1) Y
theorem fsX_up : ∀ {k p q n : Nat} {X : Nat → Nat}, q < p → fsX own A k p (upX X q n) = upX (fsX own A k p X) q n
  | 0, p, q, n, X, _ => rfl
  | k + 1, p, q, n, X, h => by
    show (if own p = true then fsX own A k (p + 1) (upX (upX X q n) p (2 ^ low (A p))) else fsX own A k (p + 1) (upX X q n)) = upX (if own p = true then fsX own A k (p + 1) (upX X p (2 ^ low (A p))) else fsX own A k (p + 1) X) q n
    by_cases c : own p = true
    · rw [if_pos c, if_pos c, upX_cm (by omega), fsX_up (by omega)]
    · rw [if_neg c, if_neg c, fsX_up (by omega)]
theorem plx_hd {N : Nat} (hA : ∀ q, q < N → A q ≠ 0 ∧ A q < 2 ^ 24) : ∀ {k p : Nat} {X : Nat → Nat}, p + k ≤ N → ∃ t, plx own A k p X = fsX own A k p X :: t
  | 0, p, X, _ => ⟨[], rfl⟩
  | k + 1, p, X, hN => by
    show ∃ t, (if own p = true then (bl (A p)).flatMap (fun e => plx own A k (p + 1) (upX X p (2 ^ e))) else plx own A k (p + 1) X) = (if own p = true then fsX own A k (p + 1) (upX X p (2 ^ low (A p))) else fsX own A k (p + 1) X) :: t
    by_cases c : own p = true
    · rw [if_pos c, if_pos c]
      have a := hA p (by omega)
      obtain ⟨t, ht⟩ := bl_hd a.1 a.2
      obtain ⟨t2, ht2⟩ := plx_hd hA (k := k) (p := p + 1) (X := upX X p (2 ^ low (A p))) (by omega)
      rw [ht, List.flatMap_cons, ht2, List.cons_append]
      exact ⟨_, rfl⟩
    · rw [if_neg c, if_neg c]
      exact plx_hd hA (by omega)
theorem plx_lt : ∀ {k p q : Nat} {X Y : Nat → Nat}, Y ∈ plx own A k p X → q < p → Y q = X q
  | 0, p, q, X, Y, h, _ => by rw [List.mem_singleton.mp h]
  | k + 1, p, q, X, Y, h, hq => by
    have h : Y ∈ (if own p = true then (bl (A p)).flatMap (fun e => plx own A k (p + 1) (upX X p (2 ^ e))) else plx own A k (p + 1) X) := h
    by_cases c : own p = true
    · rw [if_pos c, List.mem_flatMap] at h
      obtain ⟨e, _, h⟩ := h
      rw [plx_lt h (by omega), upX_n (by omega)]
    · rw [if_neg c] at h
      exact plx_lt h (by omega)
theorem plx_ch {N : Nat} (hA : ∀ q, q < N → A q ≠ 0 ∧ A q < 2 ^ 24) : ∀ {k p : Nat} {X : Nat → Nat}, p + k ≤ N → chT (nxt own A k p) (plx own A k p X) (fsX own A k p X, false)
  | 0, p, X, _ => rfl
  | k + 1, p, X, hN => by
    have ih : ∀ X, chT (nxt own A k (p + 1)) (plx own A k (p + 1) X) (fsX own A k (p + 1) X, false) := fun X => plx_ch hA (by omega)
    have up : ∀ Y Z, nxt own A k (p + 1) Y = (Z, true) → nxt own A (k + 1) p Y = (Z, true) := fun Y Z h => by
      show (if (nxt own A k (p + 1) Y).2 = true then nxt own A k (p + 1) Y else _) = _
      rw [h, if_pos rfl]
    by_cases c : own p = true
    · have e1 : plx own A (k + 1) p X = (bl (A p)).flatMap (fun e => plx own A k (p + 1) (upX X p (2 ^ e))) := if_pos c
      have e2 : fsX own A (k + 1) p X = fsX own A k (p + 1) (upX X p (2 ^ low (A p))) := if_pos c
      rw [e1, e2]
      have a := hA p (by omega)
      have main : ∀ (rest pre : List Nat) (e : Nat), bl (A p) = pre ++ e :: rest → chT (nxt own A (k + 1) p) ((e :: rest).flatMap (fun e => plx own A k (p + 1) (upX X p (2 ^ e)))) (fsX own A k (p + 1) (upX X p (2 ^ low (A p))), false) := by
        intro rest
        induction rest with
        | nil =>
          intro pre e hs
          have em : e ∈ bl (A p) := by rw [hs]; exact List.mem_append_right _ List.mem_cons_self
          rw [List.flatMap_cons, List.flatMap_nil, List.append_nil]
          refine chT_mono (fun Y _ Z => up Y Z) (fun Y hY h => ?_) (ih (upX X p (2 ^ e)))
          show (if (nxt own A k (p + 1) Y).2 = true then nxt own A k (p + 1) Y else if own p = true then (if abv (A p) (low (Y p)) = 0 then (upX (nxt own A k (p + 1) Y).1 p (2 ^ low (A p)), false) else _) else _) = _
          have yp : Y p = 2 ^ e := by rw [plx_lt own A hY (by omega), upX_s]
          rw [h, if_neg Bool.false_ne_true, if_pos c, yp, low_pow (by have := (mem_bl.mp em).1; omega), if_pos (bl_last hs)]
          show (upX (fsX own A k (p + 1) (upX X p (2 ^ e))) p (2 ^ low (A p)), false) = _
          rw [← fsX_up own A (by omega), upX_up]
        | cons e' rest ihr =>
          intro pre e hs
          have em : e ∈ bl (A p) := by rw [hs]; exact List.mem_append_right _ List.mem_cons_self
          obtain ⟨n1, n2⟩ := bl_next hs
          have r := ihr (pre ++ [e]) e' (by rw [hs, List.append_assoc]; rfl)
          rw [List.flatMap_cons] at r ⊢
          obtain ⟨t, ht⟩ := plx_hd own A hA (k := k) (p := p + 1) (X := upX X p (2 ^ e')) (by omega)
          rw [List.flatMap_cons]
          rw [ht, List.cons_append] at r ⊢
          refine chT_app r (chT_mono (fun Y _ Z => up Y Z) (fun Y hY h => ?_) (ih (upX X p (2 ^ e))))
          show (if (nxt own A k (p + 1) Y).2 = true then nxt own A k (p + 1) Y else if own p = true then (if abv (A p) (low (Y p)) = 0 then _ else (upX (nxt own A k (p + 1) Y).1 p (2 ^ low (abv (A p) (low (Y p)))), true)) else _) = _
          have yp : Y p = 2 ^ e := by rw [plx_lt own A hY (by omega), upX_s]
          rw [h, if_neg Bool.false_ne_true, if_pos c, yp, low_pow (by have := (mem_bl.mp em).1; omega), if_neg n1, n2]
          show (upX (fsX own A k (p + 1) (upX X p (2 ^ e))) p (2 ^ e'), true) = _
          rw [← fsX_up own A (by omega), upX_up]
      obtain ⟨t, ht⟩ := bl_hd a.1 a.2
      have := main t [] (low (A p)) ht
      rw [← ht] at this
      exact this
    · have e1 : plx own A (k + 1) p X = plx own A k (p + 1) X := if_neg c
      have e2 : fsX own A (k + 1) p X = fsX own A k (p + 1) X := if_neg c
      rw [e1, e2]
      refine chT_mono (fun Y _ Z => up Y Z) (fun Y hY h => ?_) (ih X)
      show (if (nxt own A k (p + 1) Y).2 = true then nxt own A k (p + 1) Y else if own p = true then _ else nxt own A k (p + 1) Y) = _
      rw [h, if_neg Bool.false_ne_true, if_neg c]
theorem plx_mem : ∀ {k p q : Nat} {X Y : Nat → Nat}, Y ∈ plx own A k p X → if p ≤ q ∧ q < p + k ∧ own q = true then ∃ e, e ∈ bl (A q) ∧ Y q = 2 ^ e else Y q = X q
  | 0, p, q, X, Y, h => by
    rw [if_neg (by omega), List.mem_singleton.mp h]
  | k + 1, p, q, X, Y, h => by
    have h : Y ∈ (if own p = true then (bl (A p)).flatMap (fun e => plx own A k (p + 1) (upX X p (2 ^ e))) else plx own A k (p + 1) X) := h
    by_cases c : own p = true
    · rw [if_pos c, List.mem_flatMap] at h
      obtain ⟨e, he, h⟩ := h
      by_cases d : q = p
      · subst d
        rw [if_pos ⟨Nat.le_refl _, by omega, c⟩]
        exact ⟨e, he, by rw [plx_lt own A h (by omega), upX_s]⟩
      · have := plx_mem (q := q) h
        by_cases f : p + 1 ≤ q ∧ q < p + 1 + k ∧ own q = true
        · rw [if_pos f] at this; rw [if_pos ⟨by omega, by omega, f.2.2⟩]; exact this
        · rw [if_neg f] at this
          rw [if_neg (fun z => f ⟨by omega, by omega, z.2.2⟩), this, upX_n d]
    · rw [if_neg c] at h
      have := plx_mem (q := q) h
      by_cases d : q = p
      · subst d
        rw [if_neg (fun z => by omega)] at this
        rw [if_neg (fun z => c z.2.2)]; exact this
      · by_cases f : p + 1 ≤ q ∧ q < p + 1 + k ∧ own q = true
        · rw [if_pos f] at this; rw [if_pos ⟨by omega, by omega, f.2.2⟩]; exact this
        · rw [if_neg f] at this
          rw [if_neg (fun z => f ⟨by omega, by omega, z.2.2⟩)]; exact this
theorem upS_X {X : Nat → Nat} {p e : Nat} (he : e < 24) : upS (fun q => bl (X q)) p e = fun q => bl (upX X p (2 ^ e) q) := by
  funext q
  show (if q = p then [e] else bl (X q)) = bl (if q = p then 2 ^ e else X q)
  by_cases c : q = p
  · rw [if_pos c, if_pos c, bl_pow he]
  · rw [if_neg c, if_neg c]
theorem pls_plx : ∀ {k p : Nat} {X : Nat → Nat}, pls own (fun q => bl (A q)) k p (fun q => bl (X q)) = (plx own A k p X).map (fun Y q => bl (Y q))
  | 0, p, X => rfl
  | k + 1, p, X => by
    show (if own p then (bl (A p)).flatMap (fun e => pls own (fun q => bl (A q)) k (p + 1) (upS (fun q => bl (X q)) p e)) else pls own (fun q => bl (A q)) k (p + 1) (fun q => bl (X q))) = (if own p = true then (bl (A p)).flatMap (fun e => plx own A k (p + 1) (upX X p (2 ^ e))) else plx own A k (p + 1) X).map (fun Y q => bl (Y q))
    by_cases c : own p = true
    · rw [if_pos c, if_pos c, List.map_flatMap]
      refine flatMap_c (fun e he => ?_)
      rw [upS_X (mem_bl.mp he).1, pls_plx]
    · rw [if_neg c, if_neg c, pls_plx]
end PLX
/-- the plans of a player -/
def PLXA (a : Row) (w who : Nat) : List (Nat → Nat) := plx (ownB (mnA a) who) (wys a w) (nP a) 0 (wys a w)
theorem PLA_X (a : Row) (w who : Nat) : PLA a w who = (PLXA a w who).map (fun Y q => bl (Y q)) := pls_plx (ownB (mnA a) who) (wys a w)
theorem PLX_own {a : Row} {w who q : Nat} {X : Nat → Nat} (h : X ∈ PLXA a w who) (hq : q < nP a) (ho : ownB (mnA a) who q = true) : ∃ e, (wys a w q).testBit e = true ∧ e < 24 ∧ X q = 2 ^ e := by
  have := plx_mem (ownB (mnA a) who) (wys a w) (q := q) h
  rw [if_pos ⟨by omega, by omega, ho⟩] at this
  obtain ⟨e, he, h2⟩ := this
  exact ⟨e, (mem_bl.mp he).2, (mem_bl.mp he).1, h2⟩
theorem PLX_not {a : Row} {w who q : Nat} {X : Nat → Nat} (h : X ∈ PLXA a w who) (ho : ¬ (q < nP a ∧ ownB (mnA a) who q = true)) : X q = wys a w q := by
  have := plx_mem (ownB (mnA a) who) (wys a w) (q := q) h
  rw [if_neg (fun z => ho ⟨by omega, z.2.2⟩)] at this
  exact this
theorem PLX_ok {a : Row} (O : LandOK a) {w who : Nat} {X : Nat → Nat} (h : X ∈ PLXA a w who) : XOK a w X := by
  intro p hp
  by_cases c : ownB (mnA a) who p = true
  · obtain ⟨e, h1, h2, h3⟩ := PLX_own h hp c
    rw [h3]
    refine ⟨Nat.ne_of_gt (Nat.two_pow_pos _), fun x hx => ?_⟩
    rw [tb_pow hx]; exact h1
  · rw [PLX_not h (fun z => c z.2)]
    exact XOK_w O w p hp
theorem PLX_len {a : Row} (O : LandOK a) (w who : Nat) : (PLXA a w who).length ≤ 324 := by
  have := plans_324 O w who
  rw [PLA_X, List.length_map] at this
  exact this
