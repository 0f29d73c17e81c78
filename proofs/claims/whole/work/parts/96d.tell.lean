/-! the class reckons a law -/
def capK (v : Int64) : Int32 := if v ≤ 1000000 then (if -1000000 ≤ v then v.toInt32 else (-1000000 : Int64).toInt32) else (1000000 : Int64).toInt32
theorem c_kept {v : Int64} {h : Hp} {Q : Int32 → Hp → Prop} (k : Q (capK v) h) : Law_kept v h Q := by
  have e1 : (1000000 : Int64).toInt = 1000000 := by decide
  have e2 : (-1000000 : Int64).toInt = -1000000 := by decide
  unfold Law_kept J9_min_f86c9 J9_max_f86c9
  unfold capK at k
  refine ⟨fun c => ⟨fun d => ?_, fun d => ?_⟩, fun c => ⟨fun d => ?_, fun d => absurd (by decide) d⟩⟩
  · rw [if_pos (by rw [l_le]; rw [l_lt] at c; omega), if_pos (by rw [l_le]; rw [l_lt] at d; omega)] at k
    exact k
  · rw [if_pos (by rw [l_le]; rw [l_lt] at c; omega)] at k
    by_cases q : -1000000 ≤ v
    · have : v = -1000000 := by rw [l_eq]; rw [l_lt] at d; rw [l_le] at q; omega
      rw [if_pos q, this] at k
      exact k
    · rw [if_neg q] at k
      exact k
  · by_cases q : v ≤ 1000000
    · have : v = 1000000 := by rw [l_eq]; rw [l_lt] at c; rw [l_le] at q; omega
      rw [if_pos q, this, if_pos (by decide)] at k
      exact k
    · rw [if_neg q] at k
      exact k
theorem c_joined {c : Nat} {x y : Int32} {h : Hp} {Q : Int32 → Hp → Prop} (hc : c = 3000 ∨ c = 3001 ∨ c = 3002 ∨ c = 3003 ∨ c = 3004 ∨ c = 3005 ∨ c = 3007 ∨ c = 3008) (k : Q (betw (nI c) x y) h) : Law_joined (nI (cvC c)) x y h Q := by
  unfold Law_joined
  rcases hc with rfl | rfl | rfl | rfl | rfl | rfl | rfl | rfl
  · have e : betw (nI 3000) x y = capK (x.toInt64 + y.toInt64) := rfl
    rw [e] at k
    exact ⟨fun z => absurd z (by decide), fun _ => c_kept k, fun z => absurd z (by decide), fun z => absurd z (by decide), fun z => absurd z (by decide), fun z => absurd z (by decide), fun z => absurd z (by decide), fun z => absurd z (by decide)⟩
  · have e : betw (nI 3001) x y = capK (x.toInt64 - y.toInt64) := rfl
    rw [e] at k
    exact ⟨fun z => absurd z (by decide), fun z => absurd z (by decide), fun _ => c_kept k, fun z => absurd z (by decide), fun z => absurd z (by decide), fun z => absurd z (by decide), fun z => absurd z (by decide), fun z => absurd z (by decide)⟩
  · have e : betw (nI 3002) x y = capK (x.toInt64 * y.toInt64) := rfl
    rw [e] at k
    exact ⟨fun z => absurd z (by decide), fun z => absurd z (by decide), fun z => absurd z (by decide), fun _ => c_kept k, fun z => absurd z (by decide), fun z => absurd z (by decide), fun z => absurd z (by decide), fun z => absurd z (by decide)⟩
  · have e : betw (nI 3003) x y = if x = y then 1 else 0 := rfl
    rw [e] at k
    refine ⟨fun z => absurd z (by decide), fun z => absurd z (by decide), fun z => absurd z (by decide), fun z => absurd z (by decide), fun _ => ⟨fun q => ?_, fun q => ?_⟩, fun z => absurd z (by decide), fun z => absurd z (by decide), fun z => absurd z (by decide)⟩
    · rw [if_neg q] at k; exact k
    · rw [if_pos q] at k; exact k
  · have e : betw (nI 3004) x y = if y ≤ x then 0 else 1 := rfl
    rw [e] at k
    refine ⟨fun z => absurd z (by decide), fun z => absurd z (by decide), fun z => absurd z (by decide), fun z => absurd z (by decide), fun z => absurd z (by decide), fun _ => ⟨fun q => ?_, fun q => ?_⟩, fun z => absurd z (by decide), fun z => absurd z (by decide)⟩
    · rw [if_pos q] at k; exact k
    · rw [if_neg q] at k; exact k
  · have e : betw (nI 3005) x y = if x ≤ y then 0 else 1 := rfl
    rw [e] at k
    refine ⟨fun z => absurd z (by decide), fun z => absurd z (by decide), fun z => absurd z (by decide), fun z => absurd z (by decide), fun z => absurd z (by decide), fun z => absurd z (by decide), fun _ => ⟨fun q => ?_, fun q => ?_⟩, fun z => absurd z (by decide)⟩
    · rw [if_pos q] at k; exact k
    · rw [if_neg q] at k; exact k
  · exact ⟨fun z => absurd z (by decide), fun z => absurd z (by decide), fun z => absurd z (by decide), fun z => absurd z (by decide), fun z => absurd z (by decide), fun z => absurd z (by decide), fun z => absurd z (by decide), fun _ => k⟩
  · exact ⟨fun _ => k, fun z => absurd z (by decide), fun z => absurd z (by decide), fun z => absurd z (by decide), fun z => absurd z (by decide), fun z => absurd z (by decide), fun z => absurd z (by decide), fun z => absurd z (by decide)⟩
/-! its stack -/
def tF (q : Nat) : Nat → Nat → Bool := fun o k => (o == q && k == 2) || o == q + 2
def SKt (q : Nat) (h0 h : Hp) (st : List Int32) : Prop := Fq (tF q) h0 h ∧ gI h q 2 = nI st.length ∧ ∀ j, j < st.length → gI h (q + 2) j = st.getD (st.length - 1 - j) 0
theorem tF_1 (q : Nat) : tF q q 2 = true := by simp [tF]
theorem tF_2 (q i : Nat) : tF q (q + 2) i = true := by simp [tF]
theorem q_rf {q : Nat} (hq : q = 4 ∨ q = 7) : rf q 0 = q + 1 ∧ rf q 1 = q + 2 := by rcases hq with rfl | rfl <;> exact ⟨rfl, rfl⟩
theorem k_push {q : Nat} {h0 h : Hp} {st : List Int32} {x : Int32} {Q : Hp → Prop} (hq : q = 4 ∨ q = 7) (S : SKt q h0 h st) (hl : st.length < 64) (k : ∀ h1, SKt q h0 h1 (x :: st) → Q h1) : Law_push q x h Q := by
  unfold Law_push
  rw [S.2.1, (q_rf hq).2]
  refine pk_le 64 st.length (fun c => absurd c (by omega)) (fun _ => ⟨pk_in _ 64 hl, ?_⟩)
  rw [cl st.length]
  rintro _ rfl _ rfl
  rw [sI_o (by omega), S.2.1, nI_1]
  refine k _ ⟨Fq.sI (Fq.sI S.1 (tF_2 q _)) (tF_1 q), by rw [sI_s]; rfl, fun j hj => ?_⟩
  have hj : j < st.length + 1 := hj
  rw [sI_o (by omega)]
  show _ = (x :: st).getD (st.length + 1 - 1 - j) 0
  by_cases e : j = st.length
  · subst e
    rw [sI_s, show st.length + 1 - 1 - st.length = 0 by omega]
    rfl
  · rw [sI_k e, S.2.2 j (by omega), show st.length + 1 - 1 - j = (st.length - 1 - j) + 1 by omega]
    rfl
theorem k_pop {q : Nat} {h0 h : Hp} {st : List Int32} {x : Int32} {Q : Int32 → Hp → Prop} (hq : q = 4 ∨ q = 7) (S : SKt q h0 h (x :: st)) (hl : st.length < 64) (k : ∀ h1, SKt q h0 h1 st → Q x h1) : Law_pop q h Q := by
  have e : gI h q 2 = nI (st.length + 1) := S.2.1
  unfold Law_pop
  rw [e, (q_rf hq).2]
  refine pk_le (st.length + 1) 0 (fun c => absurd c (by omega)) (fun _ => ?_)
  rw [show (1 : Int32) = nI 1 from rfl, pk_sub (by omega), show st.length + 1 - 1 = st.length by omega]
  rintro _ rfl
  rw [sI_s, cl st.length, sI_o (by omega)]
  have g := S.2.2 st.length (by show st.length < st.length + 1; omega)
  have g : gI h (q + 2) st.length = (x :: st).getD (st.length + 1 - 1 - st.length) 0 := g
  rw [show st.length + 1 - 1 - st.length = 0 by omega] at g
  refine ⟨pk_in _ 64 hl, ?_⟩
  rw [g]
  refine k _ ⟨Fq.sI S.1 (tF_1 q), by rw [sI_s], fun j hj => ?_⟩
  rw [sI_o (by omega)]
  have g := S.2.2 j (by show j < st.length + 1; omega)
  have g : gI h (q + 2) j = (x :: st).getD (st.length + 1 - 1 - j) 0 := g
  rw [show st.length + 1 - 1 - j = (st.length - 1 - j) + 1 by omega] at g
  exact g
