/-! the land that a row of the reference tells; its laws reckoned -/
abbrev Row : Type := Nat → Int32
def betw (c x y : Int32) : Int32 :=
  if c = 3003 then (if x = y then 1 else 0) else if c = 3004 then (if y ≤ x then 0 else 1) else if c = 3005 then (if x ≤ y then 0 else 1) else if c = 3007 then x &&& y else if c = 3008 then x ||| y else
  (fun v : Int64 => if v ≤ 1000000 then (if -1000000 ≤ v then v.toInt32 else (-1000000 : Int64).toInt32) else (1000000 : Int64).toInt32) (if c = 3000 then x.toInt64 + y.toInt64 else if c = 3001 then x.toInt64 - y.toInt64 else x.toInt64 * y.toInt64)
theorem s_between {c x y : Int32} {h : Hp} {Q : Int32 → Hp → Prop} (k : Q (betw c x y) h) : M_between c x y h Q := by
  have key : ∀ c', c' = c → ¬ c = 3003 → ¬ c = 3004 → ¬ c = 3005 → ¬ c = 3007 → ¬ c = 3008 → (∀ J116 : Int64 → Hp → Prop, J116 = (fun s2 h3 => (s2 ≤ (1000000 : Int64) → ((-1000000 : Int64) ≤ s2 → Q ((s2).toInt32) h3) ∧ (¬ (-1000000 : Int64) ≤ s2 → Q (((-1000000 : Int64)).toInt32) h3)) ∧ (¬ s2 ≤ (1000000 : Int64) → Q (((1000000 : Int64)).toInt32) h3)) → (¬ c = 3000 → (¬ c = 3001 → J116 (((x).toInt64) * ((y).toInt64)) h) ∧ (c = 3001 → J116 (((x).toInt64) - ((y).toInt64)) h)) ∧ (c = 3000 → J116 (((x).toInt64) + ((y).toInt64)) h)) := by
    rintro c' - n3 n4 n5 n7 n8 J rfl
    unfold betw at k
    rw [if_neg n3, if_neg n4, if_neg n5, if_neg n7, if_neg n8] at k
    have kk : ∀ v : Int64, Q ((fun v : Int64 => if v ≤ 1000000 then (if -1000000 ≤ v then v.toInt32 else (-1000000 : Int64).toInt32) else (1000000 : Int64).toInt32) v) h → (v ≤ (1000000 : Int64) → ((-1000000 : Int64) ≤ v → Q ((v).toInt32) h) ∧ (¬ (-1000000 : Int64) ≤ v → Q (((-1000000 : Int64)).toInt32) h)) ∧ (¬ v ≤ (1000000 : Int64) → Q (((1000000 : Int64)).toInt32) h) := by
      intro v kv
      refine ⟨fun h1 => ⟨fun h2 => ?_, fun h2 => ?_⟩, fun h1 => ?_⟩
      · simpa only [if_pos h1, if_pos h2] using kv
      · simpa only [if_pos h1, if_neg h2] using kv
      · simpa only [if_neg h1] using kv
    refine ⟨fun h0 => ⟨fun h1 => kk _ ?_, fun h1 => kk _ ?_⟩, fun h0 => kk _ ?_⟩
    · rw [if_neg h0, if_neg h1] at k; exact k
    · rw [if_neg h0, if_pos h1] at k; exact k
    · rw [if_pos h0] at k; exact k
  unfold M_between
  rintro J81 rfl
  refine ⟨fun hc => ?_, fun hc => ?_, fun hc => ?_, fun hc => ?_, fun hc => ?_, fun hc => ?_, fun hc => ?_⟩
  · refine key c rfl ?_ ?_ ?_ ?_ ?_ <;> (intro e; subst e; revert hc; decide)
  · subst hc
    refine ⟨fun e => ?_, fun e => ?_⟩
    · simpa only [betw, if_pos, if_neg e] using k
    · simpa only [betw, if_pos, if_pos e] using k
  · subst hc
    have e3 : ¬ (3004 : Int32) = 3003 := by decide
    refine ⟨fun e => ?_, fun e => ?_⟩
    · simpa only [betw, if_neg e3, if_pos, if_pos e] using k
    · simpa only [betw, if_neg e3, if_pos, if_neg e] using k
  · subst hc
    have e3 : ¬ (3005 : Int32) = 3003 := by decide
    have e4 : ¬ (3005 : Int32) = 3004 := by decide
    refine ⟨fun e => ?_, fun e => ?_⟩
    · simpa only [betw, if_neg e3, if_neg e4, if_pos, if_pos e] using k
    · simpa only [betw, if_neg e3, if_neg e4, if_pos, if_neg e] using k
  · subst hc
    exact key _ rfl (by decide) (by decide) (by decide) (by decide) (by decide)
  · subst hc
    have e3 : ¬ (3007 : Int32) = 3003 := by decide
    have e4 : ¬ (3007 : Int32) = 3004 := by decide
    have e5 : ¬ (3007 : Int32) = 3005 := by decide
    simpa only [betw, if_neg e3, if_neg e4, if_neg e5, if_pos] using k
  · subst hc
    have e3 : ¬ (3008 : Int32) = 3003 := by decide
    have e4 : ¬ (3008 : Int32) = 3004 := by decide
    have e5 : ¬ (3008 : Int32) = 3005 := by decide
    have e7 : ¬ (3008 : Int32) = 3007 := by decide
    simpa only [betw, if_neg e3, if_neg e4, if_neg e5, if_neg e7, if_pos] using k
/-- one code over the stack (its top first) -/
def rkStep (W : Nat → Int32) (c : Int32) (st : List Int32) : Option (List Int32) :=
  if ¬ 3000 ≤ c then some ((if 1000 ≤ c then W (c - 1000).toNatClampNeg else c) :: st)
  else if c = 3006 then (match st with | x :: s => some ((1 - x) :: s) | _ => none)
  else if c = 3009 then (match st with | z :: y :: x :: s => some ((if x = 1 then y else z) :: s) | _ => none)
  else (match st with | y :: x :: s => some (betw c x y :: s) | _ => none)
def rkRun (W : Nat → Int32) : List Int32 → List Int32 → Option (List Int32)
  | [], st => some st
  | c :: cs, st => (rkStep W c st).bind (rkRun W cs)
def codesA (a : Row) (law : Nat) : List Int32 := (List.range (a (8 + law)).toInt.toNat).map (fun k => a (192 + (a (6 + law)).toInt.toNat + k))
def rkA (a : Row) (law : Nat) (W : Nat → Int32) : Int32 := match rkRun W (codesA a law) [] with
  | some (x :: _) => x
  | _ => 0
/-- the codes of a law are whole: each known, and whatever the words, one number is left -/
def codeOK (a : Row) (law : Nat) : Prop := (∃ b m : Nat, a (6 + law) = nI b ∧ a (8 + law) = nI m ∧ b + m ≤ 900 ∧ 0 < m) ∧ (∀ c ∈ codesA a law, 1000 ≤ c → ¬ 3000 ≤ c → c ≤ 1004) ∧ ∀ W, ∃ v, rkRun W (codesA a law) [] = some [v]
def wordsA (a : Row) (r w : Nat) : Nat → Int32
  | 0 => a (42 + r)
  | 1 => a (10 + r)
  | 2 => a (26 + r)
  | 3 => nI r
  | _ => nI w
def clampP (v : Int32) : Int32 := if -99 ≤ v then (if v ≤ 99 then v else 99) else -99
def payA (a : Row) (w r : Nat) : Int32 := clampP (if a 4 = 1 then rkA a 0 (wordsA a r w) else a (42 + r))
def opnA (a : Row) (w r : Nat) : Bool := if a 5 = 0 then true else decide (rkA a 1 (wordsA a r w) = 1)
def nP (a : Row) : Nat := (a 1).toInt.toNat
def nR (a : Row) : Nat := (a 2).toInt.toNat
def fromA (a : Row) (r : Nat) : Nat := (a (10 + r)).toInt.toNat
def toA (a : Row) (r : Nat) : Nat := (a (26 + r)).toInt.toNat
/-- a row tells a land -/
def LandOK (a : Row) : Prop := (1 ≤ nP a ∧ nP a ≤ 8 ∧ a 1 = nI (nP a)) ∧ (nR a ≤ 16 ∧ a 2 = nI (nR a)) ∧ (∀ r, r < nR a → (a (10 + r) = nI (fromA a r) ∧ fromA a r < nP a) ∧ (a (26 + r) = nI (toA a r) ∧ toA a r < nP a)) ∧ (a 4 = 0 ∨ a 4 = 1 ∧ codeOK a 0) ∧ (a 5 = 0 ∨ a 5 = 1 ∧ codeOK a 1) ∧ ∃ m : Nat, a 3 = nI m ∧ m < 2 ^ nP a
def rowM (h : Hp) : Row := fun k => gI h 99 k
