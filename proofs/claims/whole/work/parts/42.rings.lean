/-! rings: ways, places, pay, length -/
abbrev Rg : Type := Nat × Nat × Int × Nat
def mR (R : Rg) : Int := 840 * R.2.2.1 / (R.2.2.2 : Int)
theorem dvd840 {n : Nat} (h1 : 1 ≤ n) (h8 : n ≤ 8) : (n : Int) ∣ 840 := by
  have : n = 1 ∨ n = 2 ∨ n = 3 ∨ n = 4 ∨ n = 5 ∨ n = 6 ∨ n = 7 ∨ n = 8 := by omega
  rcases this with rfl | rfl | rfl | rfl | rfl | rfl | rfl | rfl <;> decide
theorem mR_mul {R : Rg} (h1 : 1 ≤ R.2.2.2) (h8 : R.2.2.2 ≤ 8) : mR R * (R.2.2.2 : Int) = 840 * R.2.2.1 := by
  unfold mR
  exact Int.ediv_mul_cancel (Int.dvd_trans (dvd840 h1 h8) (Int.dvd_mul_right _ _))
section RINGS
variable (tt : Nat → Nat) (pp : Nat → Int)
def rgs (S : Nat → List Nat) (fst : Nat) : Nat → Nat → Nat → Nat → Int → Nat → List Rg
  | 0, _, _, _, _, _ => []
  | d + 1, p, ws, pl, pay, n => (S p).flatMap (fun e => if tt e = fst then [(ws ||| 2 ^ e, pl, pay + pp e, n + 1)] else if fst < tt e ∧ pl.testBit (tt e) = false then rgs S fst d (tt e) (ws ||| 2 ^ e) (pl ||| 2 ^ (tt e)) (pay + pp e) (n + 1) else [])
def rings (S : Nat → List Nat) (P : Nat) : List Rg := (List.range P).flatMap (fun p => rgs tt pp S p 9 p 0 (2 ^ p) 0 0)
/-- the ways lie within P places -/
def GW (S : Nat → List Nat) (P : Nat) : Prop := P ≤ 8 ∧ ∀ p, p < P → S p ≠ [] ∧ ∀ e, e ∈ S p → tt e < P ∧ (-99 ≤ pp e ∧ pp e ≤ 99) ∧ e < 24
def Rk (S : Nat → List Nat) : Nat → Nat → Nat → Prop
  | 0, p, q => p = q
  | k + 1, p, q => ∃ e, e ∈ S p ∧ Rk S k (tt e) q
def Rch (S : Nat → List Nat) (p q : Nat) : Prop := ∃ k, Rk tt S k p q
theorem Rch.rfl' {S : Nat → List Nat} (p : Nat) : Rch tt S p p := ⟨0, rfl⟩
theorem Rch.hd {S : Nat → List Nat} {p e q : Nat} (he : e ∈ S p) (h : Rch tt S (tt e) q) : Rch tt S p q := by
  obtain ⟨k, hk⟩ := h
  exact ⟨k + 1, e, he, hk⟩
theorem Rk_add {S : Nat → List Nat} : ∀ {j k p q r : Nat}, Rk tt S j p q → Rk tt S k q r → Rk tt S (j + k) p r
  | 0, k, p, q, r, h1, h2 => by
    have h1 : p = q := h1
    rw [Nat.zero_add, h1]; exact h2
  | j + 1, k, p, q, r, h1, h2 => by
    obtain ⟨e, he, h3⟩ := h1
    rw [show j + 1 + k = (j + k) + 1 by omega]
    exact ⟨e, he, Rk_add h3 h2⟩
theorem Rch.tr {S : Nat → List Nat} {p q r : Nat} (h1 : Rch tt S p q) (h2 : Rch tt S q r) : Rch tt S p r := by
  obtain ⟨j, hj⟩ := h1
  obtain ⟨k, hk⟩ := h2
  exact ⟨j + k, Rk_add tt hj hk⟩
theorem Rch.tl {S : Nat → List Nat} {p q e : Nat} (h : Rch tt S p q) (he : e ∈ S q) : Rch tt S p (tt e) := h.tr tt (Rch.hd tt he (Rch.rfl' tt _))
theorem Rch.mono {S T : Nat → List Nat} (hs : ∀ p e, e ∈ S p → e ∈ T p) {p q : Nat} (h : Rch tt S p q) : Rch tt T p q := by
  obtain ⟨k, hk⟩ := h
  refine ⟨k, ?_⟩
  induction k generalizing p with
  | zero => exact hk
  | succ k ih =>
    obtain ⟨e, he, h3⟩ := hk
    exact ⟨e, hs p e he, ih h3⟩
/-- what is closed under ways holds wherever one comes to -/
theorem Rch.inv {S : Nat → List Nat} {I : Nat → Prop} (hI : ∀ p e, I p → e ∈ S p → I (tt e)) {p q : Nat} (h : Rch tt S p q) (hp : I p) : I q := by
  obtain ⟨k, hk⟩ := h
  induction k generalizing p with
  | zero => have hk : p = q := hk; rw [← hk]; exact hp
  | succ k ih =>
    obtain ⟨e, he, h3⟩ := hk
    exact ih (hI p e hp he) h3
theorem mem_rgs {S : Nat → List Nat} {fst d p ws pl : Nat} {pay : Int} {n : Nat} {R : Rg} : R ∈ rgs tt pp S fst (d + 1) p ws pl pay n ↔ ∃ e, e ∈ S p ∧ ((tt e = fst ∧ R = (ws ||| 2 ^ e, pl, pay + pp e, n + 1)) ∨ (tt e ≠ fst ∧ fst < tt e ∧ pl.testBit (tt e) = false ∧ R ∈ rgs tt pp S fst d (tt e) (ws ||| 2 ^ e) (pl ||| 2 ^ (tt e)) (pay + pp e) (n + 1))) := by
  show R ∈ List.flatMap _ _ ↔ _
  rw [List.mem_flatMap]
  constructor
  · rintro ⟨e, he, h⟩
    refine ⟨e, he, ?_⟩
    by_cases q : tt e = fst
    · rw [if_pos q] at h
      exact Or.inl ⟨q, List.mem_singleton.mp h⟩
    · rw [if_neg q] at h
      by_cases q2 : fst < tt e ∧ pl.testBit (tt e) = false
      · rw [if_pos q2] at h
        exact Or.inr ⟨q, q2.1, q2.2, h⟩
      · rw [if_neg q2] at h; cases h
  · rintro ⟨e, he, h⟩
    refine ⟨e, he, ?_⟩
    rcases h with ⟨q, h⟩ | ⟨q, q1, q2, h⟩
    · rw [if_pos q, h]; exact List.mem_singleton.mpr rfl
    · rw [if_neg q, if_pos ⟨q1, q2⟩]; exact h
theorem mem_rings {S : Nat → List Nat} {P : Nat} {R : Rg} : R ∈ rings tt pp S P ↔ ∃ p, p < P ∧ R ∈ rgs tt pp S p 9 p 0 (2 ^ p) 0 0 := by
  unfold rings
  rw [List.mem_flatMap]
  constructor
  · rintro ⟨p, h1, h2⟩; exact ⟨p, List.mem_range.mp h1, h2⟩
  · rintro ⟨p, h1, h2⟩; exact ⟨p, List.mem_range.mpr h1, h2⟩
/-- fewer ways: fewer rings, in the same order -/
theorem rgs_sub {S : Nat → List Nat} {fst : Nat} : ∀ {d p ws pl : Nat} {pay : Int} {n : Nat} {R : Rg}, R ∈ rgs tt pp S fst d p ws pl pay n → (∀ i, ws.testBit i = true → R.1.testBit i = true) ∧ ∀ i, pl.testBit i = true → R.2.1.testBit i = true
  | 0, _, _, _, _, _, _, h => by cases h
  | d + 1, p, ws, pl, pay, n, R, h => by
    obtain ⟨e, he, h⟩ := (mem_rgs tt pp).mp h
    rcases h with ⟨_, rfl⟩ | ⟨_, _, _, h⟩
    · exact ⟨fun i hi => by show (ws ||| 2 ^ e).testBit i = true; rw [Nat.testBit_or, hi, Bool.true_or], fun i hi => hi⟩
    · have := rgs_sub h
      exact ⟨fun i hi => this.1 i (by rw [Nat.testBit_or, hi, Bool.true_or]), fun i hi => this.2 i (by rw [Nat.testBit_or, hi, Bool.true_or])⟩
theorem rgs_has {S : Nat → List Nat} {fst d p ws pl : Nat} {pay : Int} {n : Nat} {R : Rg} (h : R ∈ rgs tt pp S fst (d + 1) p ws pl pay n) : ∃ e, e ∈ S p ∧ R.1.testBit e = true := by
  obtain ⟨e, he, h⟩ := (mem_rgs tt pp).mp h
  refine ⟨e, he, ?_⟩
  rcases h with ⟨_, rfl⟩ | ⟨_, _, _, h⟩
  · show (ws ||| 2 ^ e).testBit e = true
    rw [Nat.testBit_or, Nat.testBit_two_pow_self, Bool.or_true]
  · exact (rgs_sub tt pp h).1 e (by rw [Nat.testBit_or, Nat.testBit_two_pow_self, Bool.or_true])
def wIn (U : Nat) (R : Rg) : Bool := R.1 &&& U == R.1
theorem wIn_iff {U : Nat} {R : Rg} : wIn U R = true ↔ ∀ i, R.1.testBit i = true → U.testBit i = true := by
  unfold wIn
  rw [beq_iff_eq]
  constructor
  · intro h i hi
    rw [← h, Nat.testBit_and, Bool.and_eq_true] at hi
    exact hi.2
  · intro h
    apply Nat.eq_of_testBit_eq
    intro i
    rw [Nat.testBit_and]
    cases hi : R.1.testBit i
    · rfl
    · rw [h i hi]; rfl
theorem flatMap_filter {α β : Type} (l : List α) (q : α → Bool) (f : α → List β) (h : ∀ x ∈ l, q x = false → f x = []) : (l.filter q).flatMap f = l.flatMap f := by
  induction l with
  | nil => rfl
  | cons x l ih =>
    have ih := ih (fun y hy => h y (List.mem_cons_of_mem _ hy))
    cases hx : q x
    · rw [List.filter_cons_of_neg (by rw [hx]; decide), List.flatMap_cons, h x List.mem_cons_self hx, List.nil_append, ih]
    · rw [List.filter_cons_of_pos hx, List.flatMap_cons, List.flatMap_cons, ih]
theorem filter_flatMap' {α β : Type} (l : List α) (g : β → Bool) (f : α → List β) : (l.flatMap f).filter g = l.flatMap (fun x => (f x).filter g) := by
  induction l with
  | nil => rfl
  | cons x l ih => rw [List.flatMap_cons, List.filter_append, ih, List.flatMap_cons]
theorem flatMap_c {α β : Type} {l : List α} {f g : α → List β} (h : ∀ x ∈ l, f x = g x) : l.flatMap f = l.flatMap g := by
  induction l with
  | nil => rfl
  | cons x l ih => rw [List.flatMap_cons, List.flatMap_cons, h x List.mem_cons_self, ih (fun y hy => h y (List.mem_cons_of_mem _ hy))]
theorem rgs_filter {S T : Nat → List Nat} {U fst : Nat} (hT : ∀ p, T p = (S p).filter (fun e => U.testBit e)) : ∀ {d p ws pl : Nat} {pay : Int} {n : Nat}, (∀ i, ws.testBit i = true → U.testBit i = true) → rgs tt pp T fst d p ws pl pay n = (rgs tt pp S fst d p ws pl pay n).filter (wIn U)
  | 0, _, _, _, _, _, _ => rfl
  | d + 1, p, ws, pl, pay, n, hw => by
    show List.flatMap _ _ = List.filter _ (List.flatMap _ _)
    rw [filter_flatMap', hT p]
    rw [flatMap_c (l := (S p).filter (fun e => U.testBit e)) (g := fun e => (if tt e = fst then [(ws ||| 2 ^ e, pl, pay + pp e, n + 1)] else if fst < tt e ∧ pl.testBit (tt e) = false then rgs tt pp S fst d (tt e) (ws ||| 2 ^ e) (pl ||| 2 ^ (tt e)) (pay + pp e) (n + 1) else []).filter (wIn U))]
    · refine flatMap_filter _ _ _ (fun e he hq => ?_)
      have no : ∀ R : Rg, R.1.testBit e = true → wIn U R = false := fun R hR => by
        cases hx : wIn U R
        · rfl
        · rw [wIn_iff.mp hx e hR] at hq; cases hq
      split
      · rw [List.filter_cons_of_neg (by rw [no _ (by show (ws ||| 2 ^ e).testBit e = true; rw [Nat.testBit_or, Nat.testBit_two_pow_self, Bool.or_true])]; decide)]
        rfl
      · split
        · apply List.filter_eq_nil_iff.mpr
          intro R hR
          rw [no R ((rgs_sub tt pp hR).1 e (by rw [Nat.testBit_or, Nat.testBit_two_pow_self, Bool.or_true]))]
          decide
        · rfl
    · intro e he
      have hU : U.testBit e = true := (List.mem_filter.mp he).2
      have hw' : ∀ i, (ws ||| 2 ^ e).testBit i = true → U.testBit i = true := fun i hi => by
        rw [Nat.testBit_or, Bool.or_eq_true] at hi
        rcases hi with hi | hi
        · exact hw i hi
        · rw [Nat.testBit_two_pow, decide_eq_true_iff] at hi
          rw [← hi]; exact hU
      by_cases q : tt e = fst
      · rw [if_pos q, if_pos q, List.filter_cons_of_pos (wIn_iff.mpr hw')]
        rfl
      · rw [if_neg q, if_neg q]
        by_cases q2 : fst < tt e ∧ pl.testBit (tt e) = false
        · rw [if_pos q2, if_pos q2]
          exact rgs_filter hT hw'
        · rw [if_neg q2, if_neg q2]; rfl
theorem rings_filter {S T : Nat → List Nat} {U P : Nat} (hT : ∀ p, T p = (S p).filter (fun e => U.testBit e)) : rings tt pp T P = (rings tt pp S P).filter (wIn U) := by
  unfold rings
  rw [filter_flatMap']
  exact flatMap_c (fun p _ => rgs_filter tt pp hT (fun i hi => by simp at hi))
/-- bits below 8 -/
def cn8 (n : Nat) : Nat := ((List.range 8).filter (fun i => n.testBit i)).length
theorem cn8_le (n : Nat) : cn8 n ≤ 8 := by
  have := List.length_filter_le (fun i => n.testBit i) (List.range 8)
  rw [List.length_range] at this
  exact this
theorem cn8_add {n q : Nat} (hq : q < 8) (h : n.testBit q = false) : cn8 n < cn8 (n ||| 2 ^ q) := by
  refine cnt_lt _ _ _ (fun x _ hx => by rw [Nat.testBit_or, hx, Bool.true_or]) ⟨q, List.mem_range.mpr hq, ?_, h⟩
  rw [Nat.testBit_or, Nat.testBit_two_pow_self, Bool.or_true]
theorem or_lt8 {n q P : Nat} (h : n < 2 ^ P) (hq : q < P) : n ||| 2 ^ q < 2 ^ P := Nat.or_lt_two_pow h (Nat.pow_lt_pow_right (by decide) hq)
/-- what holds of each ring -/
theorem rgs_ok {S : Nat → List Nat} {P fst : Nat} (hG : GW tt pp S P) : ∀ {d p ws pl : Nat} {pay : Int} {n : Nat} {R : Rg}, p < P → pl < 2 ^ P → n + 1 ≤ cn8 pl → (-99 * (n : Int) ≤ pay ∧ pay ≤ 99 * (n : Int)) → ws < 2 ^ 24 → R ∈ rgs tt pp S fst d p ws pl pay n → 1 ≤ R.2.2.2 ∧ R.2.2.2 ≤ 8 ∧ (-99 * (R.2.2.2 : Int) ≤ R.2.2.1 ∧ R.2.2.1 ≤ 99 * (R.2.2.2 : Int)) ∧ R.2.1 < 2 ^ P ∧ R.1 < 2 ^ 24
  | 0, _, _, _, _, _, _, _, _, _, _, _, h => by cases h
  | d + 1, p, ws, pl, pay, n, R, hp, hl, hn, hy, hws, h => by
    obtain ⟨e, he, h⟩ := (mem_rgs tt pp).mp h
    have hg := (hG.2 p hp).2 e he
    have hws' : ws ||| 2 ^ e < 2 ^ 24 := or_lt8 hws hg.2.2
    rcases h with ⟨_, rfl⟩ | ⟨_, _, hb, h⟩
    · refine ⟨by show 1 ≤ n + 1; omega, ?_, ?_, hl, hws'⟩
      · have := cn8_le pl; show n + 1 ≤ 8; omega
      · show -99 * ((n + 1 : Nat) : Int) ≤ pay + pp e ∧ pay + pp e ≤ 99 * ((n + 1 : Nat) : Int)
        have := hg.2.1; omega
    · refine rgs_ok hG hg.1 (or_lt8 hl hg.1) ?_ ?_ hws' h
      · have := cn8_add (n := pl) (q := tt e) (by have := hG.1; have := hg.1; omega) hb; omega
      · have := hg.2.1; omega
theorem cn8_1 : ∀ p, p < 8 → cn8 (2 ^ p) = 1 := by decide
theorem rings_ok {S : Nat → List Nat} {P : Nat} (hG : GW tt pp S P) {R : Rg} (h : R ∈ rings tt pp S P) : 1 ≤ R.2.2.2 ∧ R.2.2.2 ≤ 8 ∧ (-99 * (R.2.2.2 : Int) ≤ R.2.2.1 ∧ R.2.2.1 ≤ 99 * (R.2.2.2 : Int)) ∧ R.2.1 < 2 ^ P ∧ R.1 < 2 ^ 24 := by
  obtain ⟨p, hp, h⟩ := (mem_rings tt pp).mp h
  have := hG.1
  exact rgs_ok tt pp hG hp (Nat.pow_lt_pow_right (by decide) hp) (by rw [cn8_1 p (by omega)]; omega) (by omega) (by decide) h
/-- by a potential: no ring's mean is below the value of its places -/
theorem rgs_pot {S : Nat → List Nat} {P fst : Nat} {val psi : Nat → Int} (hG : GW tt pp S P) (hv : ∀ p, p < P → ∀ e, e ∈ S p → val p ≤ val (tt e) ∧ psi p ≤ 840 * pp e - val p + psi (tt e)) : ∀ {d p ws pl : Nat} {pay : Int} {n : Nat} {R : Rg}, p < P → val fst ≤ val p → (∀ q, pl.testBit q = true → val fst ≤ val q ∧ val q ≤ val p) → psi fst ≤ 840 * pay - n * val fst + psi p → R ∈ rgs tt pp S fst d p ws pl pay n → ∀ q, R.2.1.testBit q = true → (R.2.2.2 : Int) * val q ≤ 840 * R.2.2.1
  | 0, _, _, _, _, _, _, _, _, _, _, h => by cases h
  | d + 1, p, ws, pl, pay, n, R, hp, hf, hq, hpsi, h => by
    obtain ⟨e, he, h⟩ := (mem_rgs tt pp).mp h
    have h1 := hv p hp e he
    have hm : ((n + 1 : Nat) : Int) * val fst = n * val fst + val fst := by rw [Int.natCast_add, Int.add_mul]; simp
    rcases h with ⟨ht, rfl⟩ | ⟨_, _, hb, h⟩
    · intro q hq1
      have h2 := hq q hq1
      rw [ht] at h1
      have h3 : val q = val fst := by omega
      show ((n + 1 : Nat) : Int) * val q ≤ 840 * (pay + pp e)
      rw [h3, hm]
      have := h1.2
      omega
    · refine rgs_pot hG hv ((hG.2 p hp).2 e he).1 (by omega) (fun q hq1 => ?_) ?_ h
      · rw [Nat.testBit_or, Bool.or_eq_true] at hq1
        rcases hq1 with hq1 | hq1
        · have := hq q hq1; omega
        · rw [Nat.testBit_two_pow, decide_eq_true_iff] at hq1
          rw [← hq1]; omega
      · rw [hm]; have := h1.2; omega
theorem rgs_pot' {S : Nat → List Nat} {P fst : Nat} {val psi : Nat → Int} (hG : GW tt pp S P) (hv : ∀ p, p < P → ∀ e, e ∈ S p → val (tt e) ≤ val p ∧ 840 * pp e - val p + psi (tt e) ≤ psi p) : ∀ {d p ws pl : Nat} {pay : Int} {n : Nat} {R : Rg}, p < P → val p ≤ val fst → (∀ q, pl.testBit q = true → val q ≤ val fst ∧ val p ≤ val q) → 840 * pay - n * val fst + psi p ≤ psi fst → R ∈ rgs tt pp S fst d p ws pl pay n → ∀ q, R.2.1.testBit q = true → 840 * R.2.2.1 ≤ (R.2.2.2 : Int) * val q
  | 0, _, _, _, _, _, _, _, _, _, _, h => by cases h
  | d + 1, p, ws, pl, pay, n, R, hp, hf, hq, hpsi, h => by
    obtain ⟨e, he, h⟩ := (mem_rgs tt pp).mp h
    have h1 := hv p hp e he
    have hm : ((n + 1 : Nat) : Int) * val fst = n * val fst + val fst := by rw [Int.natCast_add, Int.add_mul]; simp
    rcases h with ⟨ht, rfl⟩ | ⟨_, _, hb, h⟩
    · intro q hq1
      have h2 := hq q hq1
      rw [ht] at h1
      have h3 : val q = val fst := by omega
      show 840 * (pay + pp e) ≤ ((n + 1 : Nat) : Int) * val q
      rw [h3, hm]
      have := h1.2
      omega
    · refine rgs_pot' hG hv ((hG.2 p hp).2 e he).1 (by omega) (fun q hq1 => ?_) ?_ h
      · rw [Nat.testBit_or, Bool.or_eq_true] at hq1
        rcases hq1 with hq1 | hq1
        · have := hq q hq1; omega
        · rw [Nat.testBit_two_pow, decide_eq_true_iff] at hq1
          rw [← hq1]; omega
      · rw [hm]; have := h1.2; omega
theorem tb_pow {p q : Nat} (h : (2 ^ p).testBit q = true) : q = p := by
  rw [Nat.testBit_two_pow, decide_eq_true_iff] at h; exact h.symm
theorem le_mR {R : Rg} {v : Int} (h1 : 1 ≤ R.2.2.2) (h8 : R.2.2.2 ≤ 8) (h : (R.2.2.2 : Int) * v ≤ 840 * R.2.2.1) : v ≤ mR R := by
  have := mR_mul h1 h8
  rw [← this, Int.mul_comm] at h
  exact Int.le_of_mul_le_mul_right h (by omega)
theorem mR_le {R : Rg} {v : Int} (h1 : 1 ≤ R.2.2.2) (h8 : R.2.2.2 ≤ 8) (h : 840 * R.2.2.1 ≤ (R.2.2.2 : Int) * v) : mR R ≤ v := by
  have := mR_mul h1 h8
  rw [← this, Int.mul_comm (R.2.2.2 : Int) v] at h
  exact Int.le_of_mul_le_mul_right h (by omega)
theorem rings_pot {S : Nat → List Nat} {P : Nat} {val psi : Nat → Int} (hG : GW tt pp S P) (hv : ∀ p, p < P → ∀ e, e ∈ S p → val p ≤ val (tt e) ∧ psi p ≤ 840 * pp e - val p + psi (tt e)) {R : Rg} (h : R ∈ rings tt pp S P) {q : Nat} (hq : R.2.1.testBit q = true) : val q ≤ mR R := by
  have ok := rings_ok tt pp hG h
  obtain ⟨p, hp, h⟩ := (mem_rings tt pp).mp h
  refine le_mR ok.1 ok.2.1 (rgs_pot tt pp hG hv hp (Int.le_refl _) (fun q hq => ?_) (by simp) h q hq)
  rw [tb_pow hq]; omega
theorem rings_pot' {S : Nat → List Nat} {P : Nat} {val psi : Nat → Int} (hG : GW tt pp S P) (hv : ∀ p, p < P → ∀ e, e ∈ S p → val (tt e) ≤ val p ∧ 840 * pp e - val p + psi (tt e) ≤ psi p) {R : Rg} (h : R ∈ rings tt pp S P) {q : Nat} (hq : R.2.1.testBit q = true) : mR R ≤ val q := by
  have ok := rings_ok tt pp hG h
  obtain ⟨p, hp, h⟩ := (mem_rings tt pp).mp h
  refine mR_le ok.1 ok.2.1 (rgs_pot' tt pp hG hv hp (Int.le_refl _) (fun q hq => ?_) (by simp) h q hq)
  rw [tb_pow hq]; omega
/-- a way in: there is a ring that is come to -/
theorem rgs_find {S : Nat → List Nat} {f : Nat → Nat} {fst : Nat} (hf : ∀ p, S p ≠ [] → f p ∈ S p) : ∀ {j d p ws pl : Nat} {pay : Int} {n : Nat}, j + 1 ≤ d → (∀ i, i ≤ j → S (gorb (fun _ e => tt e) f i p) ≠ []) → gorb (fun _ e => tt e) f (j + 1) p = fst → (∀ i, i < j → fst < gorb (fun _ e => tt e) f (i + 1) p ∧ pl.testBit (gorb (fun _ e => tt e) f (i + 1) p) = false) → (∀ i k, i < k → k < j → gorb (fun _ e => tt e) f (i + 1) p ≠ gorb (fun _ e => tt e) f (k + 1) p) → ∃ R, R ∈ rgs tt pp S fst d p ws pl pay n
  | 0, d + 1, p, ws, pl, pay, n, _, hS, h1, _, _ => ⟨_, (mem_rgs tt pp).mpr ⟨f p, hf p (hS 0 (Nat.le_refl 0)), Or.inl ⟨h1, rfl⟩⟩⟩
  | j + 1, d + 1, p, ws, pl, pay, n, hd, hS, h1, h2, h3 => by
    have a := h2 0 (by omega)
    have a1 : fst < tt (f p) := a.1
    have hh : ∀ i, i < j → fst < gorb (fun _ e => tt e) f (i + 1) (tt (f p)) ∧ (pl ||| 2 ^ tt (f p)).testBit (gorb (fun _ e => tt e) f (i + 1) (tt (f p))) = false := by
      intro i hi
      have b := h2 (i + 1) (by omega)
      have c := h3 0 (i + 1) (by omega) (by omega)
      refine ⟨b.1, ?_⟩
      rw [Nat.testBit_or, Nat.testBit_two_pow, Bool.or_eq_false_iff, decide_eq_false_iff_not]
      exact ⟨b.2, c⟩
    obtain ⟨R, hR⟩ := rgs_find hf (j := j) (d := d) (p := tt (f p)) (ws := ws ||| 2 ^ f p) (pl := pl ||| 2 ^ tt (f p)) (pay := pay + pp (f p)) (n := n + 1) (fst := fst) (by omega) (fun i hi => hS (i + 1) (by omega)) h1 hh (fun i k hik hk => h3 (i + 1) (k + 1) (by omega) (by omega))
    exact ⟨R, (mem_rgs tt pp).mpr ⟨f p, hf p (hS 0 (by omega)), Or.inr ⟨by omega, a1, a.2, hR⟩⟩⟩
theorem ring_ex {S : Nat → List Nat} {P : Nat} (hG : GW tt pp S P) {p : Nat} (hp : p < P) : ∃ R q, R ∈ rings tt pp S P ∧ Rch tt S p q ∧ R.2.1.testBit q = true := by
  let tg : Nat → Nat → Nat := fun _ e => tt e
  let f : Nat → Nat := fun p => (S p).headD 0
  have hf : ∀ p, S p ≠ [] → f p ∈ S p := fun p h => by
    show (S p).headD 0 ∈ S p
    cases hS : S p
    · exact absurd hS h
    · simp
  have hl : ∀ i, gorb tg f i p < P := by
    intro i
    induction i with
    | zero => exact hp
    | succ i ih => rw [gorb_s]; exact ((hG.2 _ ih).2 _ (hf _ (hG.2 _ ih).1)).1
  have hr : ∀ i, Rch tt S p (gorb tg f i p) := by
    intro i
    induction i with
    | zero => exact Rch.rfl' tt p
    | succ i ih => rw [gorb_s]; exact ih.tl tt (hf _ (hG.2 _ (hl i)).1)
  have h8 := hG.1
  obtain ⟨i, j, hij, hj, he⟩ := php 8 (fun i => gorb tg f i p) (fun i _ => by have := hl i; omega)
  have hper : gorb tg f (j - i) (gorb tg f i p) = gorb tg f i p := by
    rw [← gorb_add, show i + (j - i) = j by omega]; exact he.symm
  -- the least place of the ring
  obtain ⟨y, ⟨m, hm, hmy⟩, hy⟩ := pk_least (fun v => ∃ m, i ≤ m ∧ gorb tg f m p = v) ⟨_, i, Nat.le_refl i, rfl⟩
  have hyp : gorb tg f (j - i) y = y := by
    rw [← hmy, ← gorb_add]
    have : gorb tg f (m + (j - i)) p = gorb tg f (m - i) (gorb tg f (i + (j - i)) p) := by
      rw [← gorb_add]; congr 1; omega
    rw [this, gorb_add, hper, ← gorb_add]; congr 1; omega
  have hyl : ∀ k, y ≤ gorb tg f k y := by
    intro k
    rcases Nat.lt_or_ge (gorb tg f k y) y with q | q
    · exact absurd ⟨m + k, by omega, by rw [gorb_add, hmy]⟩ (hy _ q)
    · exact q
  obtain ⟨k, ⟨hk1, hk2⟩, hk3⟩ := pk_least (fun k => 1 ≤ k ∧ gorb tg f k y = y) ⟨j - i, by omega, hyp⟩
  have hk8 : k ≤ 8 := by
    rcases Nat.lt_or_ge (j - i) k with q | q
    · exact absurd ⟨by omega, hyp⟩ (hk3 _ q)
    · omega
  have hyP : y < P := by rw [← hmy]; exact hl m
  have hlk : ∀ x, S (gorb tg f x y) ≠ [] := fun x => by
    rw [← hmy, ← gorb_add]; exact (hG.2 _ (hl _)).1
  have hne : ∀ x, 1 ≤ x → x < k → gorb tg f x y ≠ y := fun x h1 h2 q => hk3 x h2 ⟨h1, q⟩
  have c1 : ∀ x, x < k - 1 → y < gorb tg f (x + 1) y ∧ (2 ^ y).testBit (gorb tg f (x + 1) y) = false := by
    intro x hx
    have h3 := hne (x + 1) (by omega) (by omega)
    have h2 := hyl (x + 1)
    refine ⟨by omega, ?_⟩
    rw [Nat.testBit_two_pow, decide_eq_false_iff_not]
    exact fun q => h3 q.symm
  have c2 : ∀ a b, a < b → b < k - 1 → gorb tg f (a + 1) y ≠ gorb tg f (b + 1) y := by
    intro a b hab hb q
    refine hne (a + 1 + (k - (b + 1))) (by omega) (by omega) ?_
    rw [gorb_add, q, ← gorb_add, show b + 1 + (k - (b + 1)) = k by omega]
    exact hk2
  obtain ⟨R, hR⟩ := rgs_find tt pp (S := S) (f := f) (fst := y) hf (j := k - 1) (d := 9) (p := y) (ws := 0) (pl := 2 ^ y) (pay := 0) (n := 0) (by omega) (fun x _ => hlk x) (by rw [show k - 1 + 1 = k by omega]; exact hk2) c1 c2
  exact ⟨R, y, (mem_rings tt pp).mpr ⟨y, hyP, hR⟩, by rw [← hmy]; exact hr m, (rgs_sub tt pp hR).2 y (Nat.testBit_two_pow_self)⟩
end RINGS
