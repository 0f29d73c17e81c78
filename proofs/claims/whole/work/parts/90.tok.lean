/-! tokens, pure -/
def isLe (c : Nat) : Bool := decide (97 ≤ c) && decide (c ≤ 122)
def isDi (c : Nat) : Bool := decide (48 ≤ c) && decide (c ≤ 57)
def isSp (c : Nat) : Bool := decide (c = 10) || decide (c = 32)
theorem isLe_i {c : Nat} : isLe c = true ↔ 97 ≤ c ∧ c ≤ 122 := by simp [isLe]
theorem isDi_i {c : Nat} : isDi c = true ↔ 48 ≤ c ∧ c ≤ 57 := by simp [isDi]
theorem isSp_i {c : Nat} : isSp c = true ↔ c = 10 ∨ c = 32 := by simp [isSp]
/-- from i on as long as P holds -/
def scF (P : Nat → Bool) (b : Nat → Nat) (n : Nat) : Nat → Nat → Nat
  | 0, i => i
  | f + 1, i => if i < n ∧ P (b i) = true then scF P b n f (i + 1) else i
def scn (P : Nat → Bool) (b : Nat → Nat) (n i : Nat) : Nat := scF P b n (n - i) i
theorem scn_y {P : Nat → Bool} {b : Nat → Nat} {n i : Nat} (h : i < n) (hp : P (b i) = true) : scn P b n i = scn P b n (i + 1) := by
  unfold scn
  obtain ⟨f, hf⟩ : ∃ f, n - i = f + 1 := ⟨n - i - 1, by omega⟩
  rw [hf, show n - (i + 1) = f by omega]
  exact if_pos ⟨h, hp⟩
theorem scn_n {P : Nat → Bool} {b : Nat → Nat} {n i : Nat} (h : ¬ (i < n ∧ P (b i) = true)) : scn P b n i = i := by
  unfold scn
  cases hf : n - i with
  | zero => rfl
  | succ f => exact if_neg h
theorem scn_ge {P : Nat → Bool} {b : Nat → Nat} {n : Nat} : ∀ {f i : Nat}, n - i = f → i ≤ scn P b n i ∧ (i ≤ n → scn P b n i ≤ n) ∧ (∀ j, i ≤ j → j < scn P b n i → P (b j) = true) ∧ ¬ (scn P b n i < n ∧ P (b (scn P b n i)) = true)
  | 0, i, h => by
    rw [scn_n (by omega)]
    exact ⟨Nat.le_refl _, fun h => h, fun j h1 h2 => absurd h1 (by omega), by omega⟩
  | f + 1, i, h => by
    by_cases c : i < n ∧ P (b i) = true
    · rw [scn_y c.1 c.2]
      obtain ⟨a1, a2, a3, a4⟩ := scn_ge (P := P) (b := b) (n := n) (f := f) (i := i + 1) (by omega)
      refine ⟨by omega, fun _ => a2 (by omega), fun j h1 h2 => ?_, a4⟩
      by_cases e : j = i
      · subst e; exact c.2
      · exact a3 j (by omega) h2
    · rw [scn_n c]
      exact ⟨Nat.le_refl _, fun h => h, fun j h1 h2 => absurd h1 (by omega), c⟩
def txt (b : Nat → Nat) (s e : Nat) : List Nat := (List.range (e - s)).map (fun i => b (s + i))
def kws : List (List Nat) := [[108, 97, 110, 100], [119, 101, 97, 116, 104, 101, 114], [112, 108, 97, 99, 101], [109, 105, 110, 101], [121, 111, 117, 114, 115], [114, 111, 97, 100], [103, 97, 105, 110, 115], [108, 111, 115, 101, 115], [112, 97, 121, 115], [111, 112, 101, 110], [105, 102], [116, 104, 101, 110], [101, 108, 115, 101], [101, 110, 100], [116, 111, 108, 100], [102, 114, 111, 109], [116, 111], [97, 110, 100], [111, 114], [110, 111, 116]]
def sgs : List Nat := [59, 58, 43, 45, 42, 40, 41, 91, 93, 61, 60, 62]
def fnd (t : List Nat) : List (List Nat) → Nat → Nat
  | [], _ => 22
  | x :: l, k => if t = x then k else fnd t l (k + 1)
def fns (c : Nat) : List Nat → Nat → Nat
  | [], _ => 25
  | x :: l, k => if c = x then k else fns c l (k + 1)
/-- a number's value, three digits at most -/
def dgv (b : Nat → Nat) (s : Nat) : Nat → Nat
  | 0 => 0
  | k + 1 => 10 * dgv b s k + (b (s + k) - 48)
/-- the token behind pos: where, behind it, kind, number -/
def tok (b : Nat → Nat) (n pos : Nat) : Nat × Nat × Nat × Nat :=
  if n ≤ scn isSp b n pos then (scn isSp b n pos, scn isSp b n pos, 24, 0)
  else if isLe (b (scn isSp b n pos)) = true then (scn isSp b n pos, scn isLe b n (scn isSp b n pos), fnd (txt b (scn isSp b n pos) (scn isLe b n (scn isSp b n pos))) kws 0, 0)
  else if isDi (b (scn isSp b n pos)) = true then (scn isSp b n pos, scn isDi b n (scn isSp b n pos), if scn isDi b n (scn isSp b n pos) - scn isSp b n pos ≤ 3 then 23 else 25, dgv b (scn isSp b n pos) (scn isDi b n (scn isSp b n pos) - scn isSp b n pos))
  else (scn isSp b n pos, scn isSp b n pos + 1, fns (b (scn isSp b n pos)) sgs 30, 0)
/-- the class's kind -/
def ckd (k : Nat) : Nat := if k = 24 then 0 else if k = 25 then 1 else if k = 23 then 3 else if k < 24 then 2 else 4
/-- what holds of a token -/
def TkO (b : Nat → Nat) (n s e k v : Nat) : Prop := s ≤ e ∧ e ≤ n ∧ (k = 24 → s = n ∧ e = n) ∧ (k ≠ 24 → s < e) ∧ (ckd k = 2 → (∀ i, s ≤ i → i < e → isLe (b i) = true) ∧ k = fnd (txt b s e) kws 0) ∧ (ckd k = 4 → e = s + 1 ∧ k = fns (b s) sgs 30 ∧ b s < 128) ∧ (k = 23 → v < 1000) ∧ (k < 20 ∨ k = 22 ∨ k = 23 ∨ k = 24 ∨ k = 25 ∨ (30 ≤ k ∧ k < 42))
def TkOK (b : Nat → Nat) (n : Nat) (t : Nat × Nat × Nat × Nat) : Prop := TkO b n t.1 t.2.1 t.2.2.1 t.2.2.2
theorem fnd_r (t : List Nat) : ∀ (l : List (List Nat)) (k : Nat), fnd t l k = 22 ∨ (k ≤ fnd t l k ∧ fnd t l k < k + l.length)
  | [], k => Or.inl rfl
  | x :: l, k => by
    show (if t = x then k else fnd t l (k + 1)) = 22 ∨ (k ≤ (if t = x then k else fnd t l (k + 1)) ∧ (if t = x then k else fnd t l (k + 1)) < k + (l.length + 1))
    split
    · exact Or.inr ⟨Nat.le_refl _, by omega⟩
    · rcases fnd_r t l (k + 1) with h | ⟨h1, h2⟩
      · exact Or.inl h
      · exact Or.inr ⟨by omega, by omega⟩
theorem fns_r (c : Nat) : ∀ (l : List Nat) (k : Nat), fns c l k = 25 ∨ (k ≤ fns c l k ∧ fns c l k < k + l.length ∧ c ∈ l)
  | [], k => Or.inl rfl
  | x :: l, k => by
    show (if c = x then k else fns c l (k + 1)) = 25 ∨ (k ≤ (if c = x then k else fns c l (k + 1)) ∧ (if c = x then k else fns c l (k + 1)) < k + (l.length + 1) ∧ c ∈ x :: l)
    split
    · rename_i e
      exact Or.inr ⟨Nat.le_refl _, by omega, by rw [e]; exact List.mem_cons_self⟩
    · rcases fns_r c l (k + 1) with h | ⟨h1, h2, h3⟩
      · exact Or.inl h
      · exact Or.inr ⟨by omega, by omega, List.mem_cons_of_mem _ h3⟩
theorem dgv_lt {b : Nat → Nat} {s : Nat} : ∀ k, (∀ i, i < k → b (s + i) ≤ 57) → dgv b s k < 10 ^ k
  | 0, _ => by show 0 < 1; omega
  | k + 1, h => by
    have ih := dgv_lt (b := b) (s := s) k (fun i hi => h i (by omega))
    have := h k (by omega)
    show 10 * dgv b s k + (b (s + k) - 48) < 10 ^ (k + 1)
    rw [Nat.pow_succ]; omega
theorem ck_kw {k : Nat} (h : k < 20 ∨ k = 22) : ckd k = 2 := by
  unfold ckd; rw [if_neg (by omega), if_neg (by omega), if_neg (by omega), if_pos (by omega)]
theorem ck_sg {k : Nat} (h : 30 ≤ k) : ckd k = 4 := by
  unfold ckd; rw [if_neg (by omega), if_neg (by omega), if_neg (by omega), if_neg (by omega)]
theorem ck_x : ckd 24 = 0 ∧ ckd 25 = 1 ∧ ckd 23 = 3 := by decide
theorem tok_ok {b : Nat → Nat} {n pos : Nat} (hp : pos ≤ n) : TkOK b n (tok b n pos) ∧ pos ≤ (tok b n pos).1 := by
  obtain ⟨x24, x25, x23⟩ := ck_x
  obtain ⟨s1, s2, _, s4⟩ := scn_ge (P := isSp) (b := b) (n := n) (i := pos) rfl
  have s2 := s2 hp
  unfold tok
  generalize scn isSp b n pos = s at s1 s2 s4
  by_cases c : n ≤ s
  · rw [if_pos c]
    show TkO b n s s 24 0 ∧ pos ≤ s
    exact ⟨⟨Nat.le_refl _, by omega, fun _ => ⟨by omega, by omega⟩, fun h => absurd rfl h, fun h => by omega, fun h => by omega, fun h => by omega, by omega⟩, s1⟩
  · rw [if_neg c]
    by_cases l : isLe (b s) = true
    · rw [if_pos l]
      obtain ⟨e1, e2, e3, _⟩ := scn_ge (P := isLe) (b := b) (n := n) (i := s) rfl
      have e2 := e2 (by omega)
      have gt : s < scn isLe b n s := by
        rw [scn_y (by omega) l]
        have := (scn_ge (P := isLe) (b := b) (n := n) (i := s + 1) rfl).1
        omega
      generalize scn isLe b n s = e at e1 e2 e3 gt
      have r : fnd (txt b s e) kws 0 < 20 ∨ fnd (txt b s e) kws 0 = 22 := by
        rcases fnd_r (txt b s e) kws 0 with f | ⟨_, f2⟩
        · exact Or.inr f
        · exact Or.inl f2
      have ck := ck_kw r
      show TkO b n s e (fnd (txt b s e) kws 0) 0 ∧ pos ≤ s
      exact ⟨⟨e1, e2, fun h => by omega, fun _ => gt, fun _ => ⟨e3, rfl⟩, fun h => by omega, fun h => by omega, by omega⟩, s1⟩
    · rw [if_neg l]
      by_cases d : isDi (b s) = true
      · rw [if_pos d]
        obtain ⟨e1, e2, e3, _⟩ := scn_ge (P := isDi) (b := b) (n := n) (i := s) rfl
        have e2 := e2 (by omega)
        have gt : s < scn isDi b n s := by
          rw [scn_y (by omega) d]
          have := (scn_ge (P := isDi) (b := b) (n := n) (i := s + 1) rfl).1
          omega
        generalize scn isDi b n s = e at e1 e2 e3 gt
        by_cases q : e - s ≤ 3
        · rw [if_pos q]
          have v := dgv_lt (b := b) (s := s) (e - s) (fun i hi => (isDi_i.mp (e3 (s + i) (by omega) (by omega))).2)
          have p3 : 10 ^ (e - s) ≤ 10 ^ 3 := Nat.pow_le_pow_right (by decide) q
          show TkO b n s e 23 (dgv b s (e - s)) ∧ pos ≤ s
          exact ⟨⟨e1, e2, fun h => by omega, fun _ => gt, fun h => by omega, fun h => by omega, fun _ => by omega, by omega⟩, s1⟩
        · rw [if_neg q]
          show TkO b n s e 25 (dgv b s (e - s)) ∧ pos ≤ s
          exact ⟨⟨e1, e2, fun h => by omega, fun _ => gt, fun h => by omega, fun h => by omega, fun h => by omega, by omega⟩, s1⟩
      · rw [if_neg d]
        rcases fns_r (b s) sgs 30 with f | ⟨f1, f2, f3⟩
        · rw [f]
          show TkO b n s (s + 1) 25 0 ∧ pos ≤ s
          exact ⟨⟨by omega, by omega, fun h => by omega, fun _ => by omega, fun h => by omega, fun h => by omega, fun h => by omega, by omega⟩, s1⟩
        · have f2 : fns (b s) sgs 30 < 42 := f2
          have small : ∀ c, c ∈ sgs → c < 128 := by decide
          have ck := ck_sg f1
          show TkO b n s (s + 1) (fns (b s) sgs 30) 0 ∧ pos ≤ s
          exact ⟨⟨by omega, by omega, fun h => by omega, fun _ => by omega, fun h => by omega, fun _ => ⟨rfl, rfl, small _ f3⟩, fun h => by omega, by omega⟩, s1⟩
/-- the strings: their text, the kind that they are -/
def stN (o : Nat) : List Nat := (stB.getD o []).map (fun x => x.toInt.toNat)
def stK (o : Nat) : Nat := (([0, 0, 1, 30, 2, 3, 4, 5, 6, 7, 8, 31, 35, 36, 10, 19, 37, 38, 39, 40, 41, 17, 18, 11, 12, 13, 14, 15, 16, 34, 32, 33, 9] : List Nat).getD o 0)
theorem fnd_k {t : List Nat} : ∀ {l : List (List Nat)} {k j : Nat}, l.Nodup → (∀ i, i < l.length → k + i ≠ 22) → j < l.length → (fnd t l k = k + j ↔ t = l.getD j [])
  | [], k, j, _, _, h => absurd h (by show ¬ j < 0; omega)
  | x :: l, k, 0, nd, h3, h => by
    show (if t = x then k else fnd t l (k + 1)) = k + 0 ↔ t = x
    by_cases e : t = x
    · rw [if_pos e]; exact ⟨fun _ => e, fun _ => rfl⟩
    · rw [if_neg e]
      refine ⟨fun h2 => ?_, fun h2 => absurd h2 e⟩
      have h4 := h3 0 (by show 0 < l.length + 1; omega)
      rcases fnd_r t l (k + 1) with f | ⟨f1, f2⟩ <;> omega
  | x :: l, k, j + 1, nd, hn, h => by
    have h : j + 1 < l.length + 1 := h
    obtain ⟨n1, n2⟩ := List.nodup_cons.mp nd
    show (if t = x then k else fnd t l (k + 1)) = k + (j + 1) ↔ t = l.getD j []
    by_cases e : t = x
    · rw [if_pos e]
      refine ⟨fun h2 => by omega, fun h2 => absurd ?_ n1⟩
      rw [← e, h2, List.getD_eq_getElem?_getD, List.getElem?_eq_getElem (by omega)]
      exact List.getElem_mem (by omega)
    · rw [if_neg e]
      have := fnd_k (t := t) (l := l) (k := k + 1) (j := j) n2 (fun i hi => by have := hn (i + 1) (by show i + 1 < l.length + 1; omega); omega) (by omega)
      rw [show k + (j + 1) = k + 1 + j by omega]
      exact this
theorem fns_kk {c : Nat} : ∀ {l : List Nat} {k j : Nat}, l.Nodup → (∀ i, i < l.length → k + i ≠ 25) → j < l.length → (fns c l k = k + j ↔ c = l.getD j 0)
  | [], k, j, _, _, h => absurd h (by show ¬ j < 0; omega)
  | x :: l, k, 0, nd, h3, h => by
    show (if c = x then k else fns c l (k + 1)) = k + 0 ↔ c = x
    by_cases e : c = x
    · rw [if_pos e]; exact ⟨fun _ => e, fun _ => rfl⟩
    · rw [if_neg e]
      refine ⟨fun h2 => ?_, fun h2 => absurd h2 e⟩
      have h4 := h3 0 (by show 0 < l.length + 1; omega)
      rcases fns_r c l (k + 1) with f | ⟨f1, f2, _⟩ <;> omega
  | x :: l, k, j + 1, nd, hn, h => by
    have h : j + 1 < l.length + 1 := h
    obtain ⟨n1, n2⟩ := List.nodup_cons.mp nd
    show (if c = x then k else fns c l (k + 1)) = k + (j + 1) ↔ c = l.getD j 0
    by_cases e : c = x
    · rw [if_pos e]
      refine ⟨fun h2 => by omega, fun h2 => absurd ?_ n1⟩
      rw [← e, h2, List.getD_eq_getElem?_getD, List.getElem?_eq_getElem (by omega)]
      exact List.getElem_mem (by omega)
    · rw [if_neg e]
      have := fns_kk (c := c) (l := l) (k := k + 1) (j := j) n2 (fun i hi => by have := hn (i + 1) (by show i + 1 < l.length + 1; omega); omega) (by omega)
      rw [show k + (j + 1) = k + 1 + j by omega]
      exact this
theorem kws_nd : kws.Nodup := by decide
theorem fnd_kw {t : List Nat} {j : Nat} (hj : j < 20) : fnd t kws 0 = j ↔ t = kws.getD j [] := by
  have := fnd_k (t := t) (l := kws) (k := 0) (j := j) kws_nd (fun i hi => by have : i < 20 := hi; omega) hj
  rw [Nat.zero_add] at this
  exact this
theorem fns_k {c : Nat} (j : Nat) (hj : j < 12) : fns c sgs 30 = 30 + j ↔ c = sgs.getD j 0 := fns_kk (by decide) (fun i hi => by have : i < 12 := hi; omega) hj
/-- which strings are words, which signs -/
theorem st_tab : ∀ o, o < 33 → 1 ≤ o → (stK o < 20 ∧ stN o = kws.getD (stK o) []) ∨ (30 ≤ stK o ∧ stK o < 42 ∧ stN o = [sgs.getD (stK o - 30) 0]) := by decide
theorem kws_le : ∀ j, j < 20 → kws.getD j [] ≠ [] ∧ ∀ c, c ∈ kws.getD j [] → isLe c = true := by decide
theorem sgs_nl : ∀ j, j < 12 → isLe (sgs.getD j 0) = false := by decide
theorem txt_len (b : Nat → Nat) (s e : Nat) : (txt b s e).length = e - s := by unfold txt; rw [List.length_map, List.length_range]
theorem txt_1 (b : Nat → Nat) (s : Nat) : txt b s (s + 1) = [b s] := by
  unfold txt
  rw [show s + 1 - s = 1 by omega]
  rfl
theorem txt_mem {b : Nat → Nat} {s e x : Nat} (h : x ∈ txt b s e) : ∃ i, s ≤ i ∧ i < e ∧ x = b i := by
  unfold txt at h
  obtain ⟨i, hi, rfl⟩ := List.mem_map.mp h
  rw [List.mem_range] at hi
  exact ⟨s + i, by omega, by omega, rfl⟩
/-- a token is a string's if kind or text say so -/
theorem tk_is {b : Nat → Nat} {n : Nat} {t : Nat × Nat × Nat × Nat} (T : TkOK b n t) {o : Nat} (ho : o < 33) (h1 : 1 ≤ o) : t.2.2.1 = stK o ↔ (ckd t.2.2.1 = 2 ∨ ckd t.2.2.1 = 4) ∧ txt b t.1 t.2.1 = stN o := by
  obtain ⟨s, e, k, v⟩ := t
  obtain ⟨t1, t2, t3, t4, t5, t6, t7, t8⟩ : TkO b n s e k v := T
  have t1 : s ≤ e := t1
  have t5 : ckd k = 2 → (∀ i, s ≤ i → i < e → isLe (b i) = true) ∧ k = fnd (txt b s e) kws 0 := t5
  have t6 : ckd k = 4 → e = s + 1 ∧ k = fns (b s) sgs 30 ∧ b s < 128 := t6
  have t8 : k < 20 ∨ k = 22 ∨ k = 23 ∨ k = 24 ∨ k = 25 ∨ (30 ≤ k ∧ k < 42) := t8
  have t4 : k ≠ 24 → s < e := t4
  show k = stK o ↔ (ckd k = 2 ∨ ckd k = 4) ∧ txt b s e = stN o
  rcases st_tab o ho h1 with ⟨w1, w2⟩ | ⟨w1, w2, w3⟩
  · constructor
    · intro h
      have c2 : ckd k = 2 := by unfold ckd; rw [if_neg (by omega), if_neg (by omega), if_neg (by omega), if_pos (by omega)]
      refine ⟨Or.inl c2, ?_⟩
      rw [w2]
      refine (fnd_kw w1).mp ?_
      rw [← (t5 c2).2]; exact h
    · rintro ⟨c | c, h⟩
      · rw [(t5 c).2]
        rw [w2] at h
        exact (fnd_kw w1).mpr h
      · obtain ⟨q1, q2, _⟩ := t6 c
        subst q1
        rw [txt_1, w2] at h
        have l1 := (kws_le (stK o) w1).2
        rw [← h] at l1
        have := l1 (b s) List.mem_cons_self
        rcases fns_r (b s) sgs 30 with f | ⟨_, _, f3⟩
        · rw [q2, f] at c; exact absurd c (by decide)
        · have nl : ∀ c, c ∈ sgs → isLe c = false := by decide
          rw [nl _ f3] at this; cases this
  · constructor
    · intro h
      have c4 : ckd k = 4 := by unfold ckd; rw [if_neg (by omega), if_neg (by omega), if_neg (by omega), if_neg (by omega)]
      obtain ⟨q1, q2, _⟩ := t6 c4
      refine ⟨Or.inr c4, ?_⟩
      subst q1
      rw [txt_1, w3]
      have := (fns_k (c := b s) (stK o - 30) (by omega)).mp (by rw [← q2]; omega)
      rw [this]
    · rintro ⟨c | c, h⟩
      · have q := (t5 c).1 s (Nat.le_refl s) (t4 (by
          intro z; rw [z] at c; exact absurd c (by decide)))
        rw [w3] at h
        have : b s ∈ txt b s e := by
          unfold txt
          exact List.mem_map.mpr ⟨0, List.mem_range.mpr (by
            have := t4 (by intro z; rw [z] at c; exact absurd c (by decide))
            omega), rfl⟩
        rw [h] at this
        rw [List.mem_singleton.mp this, sgs_nl (stK o - 30) (by omega)] at q
        cases q
      · obtain ⟨q1, q2, _⟩ := t6 c
        subst q1
        rw [txt_1, w3] at h
        have := (List.cons.inj h).1
        have := (fns_k (c := b s) (stK o - 30) (by omega)).mpr this
        rw [q2, this]; omega
