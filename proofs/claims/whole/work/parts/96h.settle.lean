/-! the class settles the land: one road in one weather -/
theorem c_fill {o N : Nat} {x : Int32} {h : Hp} {Q : Hp → Prop} (hN : alen o = N) (hl : N < 2 ^ 31) (k : ∀ h1, Fq (fun p _ => p == o) h h1 → (∀ j, j < N → gI h1 o j = x) → Q h1) : J7_fill_53178 o x h Q := by
  unfold J7_fill_53178
  rintro _ rfl
  rw [hN]
  refine pk_loop (σ := Hp) (fun n' i g => J7_fill_53178_L5 o x (nI N) Q n' (nI i) g) (fun i g => Fq (fun p _ => p == o) h g ∧ ∀ j, j < i → gI g o j = x) N 0 h (by omega) ⟨Fq.rf _ _, fun j hj => absurd hj (by omega)⟩ (fun n' g J => ?_) (fun n' i g hi J hk => ?_)
  · unfold J7_fill_53178_L5
    exact pk_le N N (fun _ => k g J.1 J.2) (fun z => absurd z (by omega))
  · unfold J7_fill_53178_L5
    rw [hN]
    refine pk_le N i (fun z => absurd z (by omega)) (fun _ => ⟨pk_in i N hi, ?_⟩)
    rw [cl i]
    rintro _ rfl _ rfl
    rw [nI_1 i]
    refine hk _ ⟨Fq.sI J.1 (by simp), fun j hj => ?_⟩
    by_cases e : j = i
    · subst e; rw [sI_s]
    · rw [sI_k e]; exact J.2 j (by omega)
theorem c_clamp {v : Int32} {h : Hp} {Q : Int32 → Hp → Prop} (k : Q (clampP v) h) : J9_min_7cf53 99 v h (fun r8 h9 => J9_max_7cf53 (-99) r8 h9 (fun r10 h11 => Q r10 h11)) := by
  have e1 : (99 : Int32).toInt = 99 := by decide
  have e2 : (-99 : Int32).toInt = -99 := by decide
  unfold J9_min_7cf53 J9_max_7cf53
  unfold clampP at k
  refine ⟨fun c => ⟨fun d => ?_, fun d => ?_⟩, fun c => ⟨fun d => ?_, fun d => absurd (by decide) d⟩⟩
  · rw [if_pos (by rw [i_le]; rw [i_lt] at d; omega), if_pos (by rw [i_le]; rw [i_lt] at c; omega)] at k
    exact k
  · by_cases q : -99 ≤ v
    · have : v = -99 := by rw [i_eq]; rw [i_lt] at d; rw [i_le] at q; omega
      rw [this, if_pos (by decide), if_pos (by decide)] at k
      exact k
    · rw [if_neg q] at k; exact k
  · rw [if_pos (by rw [i_le]; rw [i_lt] at c; omega)] at k
    by_cases q : v ≤ 99
    · have : v = 99 := by rw [i_eq]; rw [i_lt] at c; rw [i_le] at q; omega
      rw [if_pos q, this] at k; exact k
    · rw [if_neg q] at k; exact k
/-- a law as the class has it: none, or the row's codes -/
def LwC (h : Hp) (q : Nat) (a : Row) (law : Nat) : Prop := (gI h q 3 = 0 ∧ a (4 + law) = 0) ∨ (a (4 + law) = 1 ∧ ∃ l : List Nat, l ≠ [] ∧ l.length ≤ 900 ∧ gI h q 3 = nI l.length ∧ (∀ i, i < l.length → gI h (q + 1) i = nI (cvC (l.getD i 0))) ∧ cdO l ∧ cds l = codesA a law ∧ PhW 36 l)
theorem lw_tell {h : Hp} {q : Nat} {a : Row} {law : Nat} {W : Nat → Int32} {Q : Int32 → Hp → Prop} (hq : q = 4 ∨ q = 7) (L : LwC h q a law) (ne : ¬ gI h q 3 = 0) (hW : ∀ k, k < 5 → gI h 13 k = W k) (k : ∀ h1, Fq (tF q) h h1 → a (4 + law) = 1 → Q (rkA a law W) h1) : Law_tell q h Q := by
  rcases L with ⟨z, _⟩ | ⟨a1, l, l0, l9, l1, l2, l3, l4, l5⟩
  · exact absurd z ne
  · obtain ⟨v, r1, r2⟩ := l5 W [] 64 (by show 0 + 36 ≤ 64; omega)
    have ev : rkA a law W = v := by unfold rkA; rw [← l4, r1]
    rw [ev] at k
    exact c_tell hq l1 l9 l2 l3 hW r1 r2 (fun h1 F => k h1 F a1)
