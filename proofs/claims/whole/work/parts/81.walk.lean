/-! the class's survey: notes and walks -/
def Fq (S : Nat → Nat → Bool) (h h1 : Hp) : Prop := Fp S h h1 ∧ ∀ n, gR h1 n = gR h n
theorem Fq.rf (S : Nat → Nat → Bool) (h : Hp) : Fq S h h := ⟨Fp.rf S h, fun _ => rfl⟩
theorem Fq.tr {S : Nat → Nat → Bool} {h h1 h2 : Hp} (a : Fq S h h1) (b : Fq S h1 h2) : Fq S h h2 := ⟨a.1.tr b.1, fun n => (b.2 n).trans (a.2 n)⟩
theorem Fq.mo {S T : Nat → Nat → Bool} {h h1 : Hp} (a : Fq S h h1) (hs : ∀ o k, T o k = false → S o k = false) : Fq T h h1 := ⟨a.1.mo hs, a.2⟩
theorem Fq.sI {S : Nat → Nat → Bool} {h h1 : Hp} {o k : Nat} {x : Int32} (a : Fq S h h1) (ho : S o k = true) : Fq S h (sI h1 o k x) := ⟨Fp.sI a.1 ho, a.2⟩
theorem j_fillq {h : Hp} {Q : Hp → Prop} {o : Nat} {x : Int32} {n : Nat} (hn : alen o = n) (h31 : n < 2 ^ 31) (k : ∀ h1, Fq (fun p _ => p == o) h h1 → (∀ j, j < n → gI h1 o j = x) → Q h1) : J7_fill_53178 o x h Q := by
  unfold J7_fill_53178
  rw [hn]
  rintro _ rfl
  refine pk_loop (σ := Hp) (fun n' i h' => J7_fill_53178_L5 o x (nI n) Q n' (nI i) h') (fun i h' => Fq (fun p _ => p == o) h h' ∧ ∀ j, j < i → gI h' o j = x) n 0 h (by omega) ⟨Fq.rf _ _, fun j hj => absurd hj (by omega)⟩ (fun n' h1 J => ?_) (fun n' i h' hi J hk => ?_)
  · unfold J7_fill_53178_L5
    exact pk_le n n (fun _ => k h1 J.1 J.2) (fun c => absurd c (by omega))
  · unfold J7_fill_53178_L5
    refine pk_le n i (fun c => absurd c (by omega)) (fun _ => ⟨by rw [hn]; exact pk_in i n hi, ?_⟩)
    rw [cl i]
    rintro _ rfl _ rfl
    rw [nI_1 i]
    refine hk _ ⟨Fq.sI J.1 (by simp), fun j hj => ?_⟩
    by_cases e : j = i
    · subst e; rw [sI_s]
    · rw [sI_k e]; exact J.2 j (by omega)
def LBm (l : List Rg) (q : Nat) (v : Int) : Prop := (∀ R, R ∈ l → R.2.1.testBit q = true → v ≤ mR R) ∧ (v = 2147483647 ∨ ∃ R, R ∈ l ∧ R.2.1.testBit q = true ∧ mR R = v)
def UBm (l : List Rg) (q : Nat) (v : Int) : Prop := (∀ R, R ∈ l → R.2.1.testBit q = true → mR R ≤ v) ∧ (v = -2147483648 ∨ ∃ R, R ∈ l ∧ R.2.1.testBit q = true ∧ mR R = v)
theorem LBm_n {l : List Rg} {q : Nat} {v : Int} {R : Rg} (h : LBm l q v) (hb : ¬ R.2.1.testBit q = true) : LBm (l ++ [R]) q v := by
  refine ⟨fun R' hR b => ?_, h.2.imp id (fun ⟨R', h1, h2⟩ => ⟨R', List.mem_append_left _ h1, h2⟩)⟩
  rcases List.mem_append.mp hR with m | m
  · exact h.1 R' m b
  · rw [List.mem_singleton.mp m] at b; exact absurd b hb
theorem UBm_n {l : List Rg} {q : Nat} {v : Int} {R : Rg} (h : UBm l q v) (hb : ¬ R.2.1.testBit q = true) : UBm (l ++ [R]) q v := by
  refine ⟨fun R' hR b => ?_, h.2.imp id (fun ⟨R', h1, h2⟩ => ⟨R', List.mem_append_left _ h1, h2⟩)⟩
  rcases List.mem_append.mp hR with m | m
  · exact h.1 R' m b
  · rw [List.mem_singleton.mp m] at b; exact absurd b hb
theorem LBm_y {l : List Rg} {q : Nat} {v x : Int} {R : Rg} (h : LBm l q v) (hb : R.2.1.testBit q = true) (hx : mR R = x) : (x < v → LBm (l ++ [R]) q x) ∧ (¬ x < v → LBm (l ++ [R]) q v) := by
  refine ⟨fun c => ⟨fun R' hR b => ?_, Or.inr ⟨R, List.mem_append_right _ (List.mem_singleton.mpr rfl), hb, hx⟩⟩, fun c => ⟨fun R' hR b => ?_, h.2.imp id (fun ⟨R', h1, h2⟩ => ⟨R', List.mem_append_left _ h1, h2⟩)⟩⟩
  · rcases List.mem_append.mp hR with m | m
    · have := h.1 R' m b; omega
    · rw [List.mem_singleton.mp m]; omega
  · rcases List.mem_append.mp hR with m | m
    · exact h.1 R' m b
    · rw [List.mem_singleton.mp m]; omega
theorem UBm_y {l : List Rg} {q : Nat} {v x : Int} {R : Rg} (h : UBm l q v) (hb : R.2.1.testBit q = true) (hx : mR R = x) : (v < x → UBm (l ++ [R]) q x) ∧ (¬ v < x → UBm (l ++ [R]) q v) := by
  refine ⟨fun c => ⟨fun R' hR b => ?_, Or.inr ⟨R, List.mem_append_right _ (List.mem_singleton.mpr rfl), hb, hx⟩⟩, fun c => ⟨fun R' hR b => ?_, h.2.imp id (fun ⟨R', h1, h2⟩ => ⟨R', List.mem_append_left _ h1, h2⟩)⟩⟩
  · rcases List.mem_append.mp hR with m | m
    · have := h.1 R' m b; omega
    · rw [List.mem_singleton.mp m]; omega
  · rcases List.mem_append.mp hR with m | m
    · exact h.1 R' m b
    · rw [List.mem_singleton.mp m]; omega
def NT (l : List Rg) (h : Hp) : Prop := gI h 73 9 = nI l.length ∧ ∀ q, q < 8 → LBm l q (gI h 76 q).toInt ∧ UBm l q (gI h 77 q).toInt
def oNt : Nat → Nat → Bool := fun o k => (o == 73 && k == 9) || o == 76 || o == 77
def oV : Nat → Nat → Bool := fun o k => (o == 73 && k == 9) || o == 75 || o == 76 || o == 77
theorem oV_Nt (o k : Nat) (h : oV o k = false) : oNt o k = false := by
  simp only [oV, oNt, Bool.or_eq_false_iff] at h ⊢; exact ⟨⟨h.1.1.1, h.1.2⟩, h.2⟩
theorem c_note {h : Hp} {Q : Hp → Prop} {l : List Rg} {R : Rg} {v : Int32} {pl : Nat} (N : NT l h) (hp : R.2.1 = pl) (hl : pl < 2 ^ 31) (hv : v.toInt = mR R) (k : ∀ h1, Fq oNt h h1 → NT (l ++ [R]) h1 → Q h1) : Survey_note (nI pl) v h Q := by
  unfold Survey_note
  rw [N.1, nI_1]
  rintro _ rfl
  refine pk_loop (σ := Hp) (fun n i h' => Survey_note_L12 (nI pl) v Q n (nI i) h') (fun i h' => Fq oNt h h' ∧ gI h' 73 9 = nI (l.length + 1) ∧ (∀ q, q < i → LBm (l ++ [R]) q (gI h' 76 q).toInt ∧ UBm (l ++ [R]) q (gI h' 77 q).toInt) ∧ ∀ q, i ≤ q → q < 8 → LBm l q (gI h' 76 q).toInt ∧ UBm l q (gI h' 77 q).toInt) 8 0 _ (by omega) ⟨Fq.sI (Fq.rf _ _) rfl, by rw [sI_s], fun q hq => absurd hq (by omega), fun q _ hq => by rw [sI_o (by decide), sI_o (by decide)]; exact N.2 q hq⟩ (fun n h1 J => ?_) (fun n i h' hi J hk => ?_)
  · obtain ⟨F, e, j1, j2⟩ := J
    unfold Survey_note_L12
    refine pk_le 8 8 (fun _ => k h1 F ⟨?_, j1⟩) (fun c => absurd c (by omega))
    rw [e, List.length_append]; rfl
  · obtain ⟨F, e, j1, j2⟩ := J
    unfold Survey_note_L12
    refine pk_le 8 i (fun c => absurd c (by omega)) (fun _ => ?_)
    rintro J62 rfl
    rw [z_bit hl (by omega)]
    obtain ⟨L, U⟩ := j2 i (Nat.le_refl i) hi
    refine ⟨fun b => ?_, fun b => ⟨pk_in i 8 hi, ?_⟩⟩
    · rintro _ rfl
      rw [nI_1 i]
      refine hk h' ⟨F, e, fun q hq => ?_, fun q h1 h2 => j2 q (by omega) h2⟩
      by_cases c : q = i
      · subst c; rw [← hp] at b; exact ⟨LBm_n L b, UBm_n U b⟩
      · exact j1 q (by omega)
    · rw [cl i]
      rw [← hp] at b
      have fin : ∀ x y : Int32, LBm (l ++ [R]) i x.toInt → UBm (l ++ [R]) i y.toInt → Survey_note_L12 (nI pl) v Q n (nI i + 1) (sI (sI h' 76 i x) 77 i y) := by
        intro x y hx hy
        rw [nI_1 i]
        refine hk _ ⟨Fq.sI (Fq.sI F rfl) rfl, ?_, fun q hq => ?_, fun q h1 h2 => ?_⟩
        · rw [sI_o (by decide), sI_o (by decide)]; exact e
        · by_cases c : q = i
          · subst c; rw [sI_s, sI_o (by decide), sI_s]; exact ⟨hx, hy⟩
          · rw [sI_o (by decide), sI_k c, sI_k c, sI_o (by decide)]; exact j1 q (by omega)
        · rw [sI_o (by decide), sI_k (by omega), sI_k (by omega), sI_o (by decide)]; exact j2 q (by omega) h2
      have fin2 : ∀ x : Int32, LBm (l ++ [R]) i x.toInt → (vp_in (nI i) 8 ∧ ∀ h6 : Hp, h6 = sI h' 76 i x → vp_in (nI i) 8 ∧ J9_max_7cf53 (gI h6 77 i) v h6 (fun r7 h8 => vp_in (nI i) 8 ∧ ∀ h9 : Hp, h9 = sI h8 77 i r7 → (fun h2 => ∀ v3 : Int32, v3 = (nI i + 1) → Survey_note_L12 (nI pl) v Q n v3 h2) h9)) := by
        intro x hx
        refine ⟨pk_in i 8 hi, ?_⟩
        rintro _ rfl
        refine ⟨pk_in i 8 hi, ?_⟩
        unfold J9_max_7cf53
        rw [sI_o (by decide), i_lt, hv]
        have u := UBm_y U b rfl
        refine ⟨fun c => ⟨pk_in i 8 hi, ?_⟩, fun c => ⟨pk_in i 8 hi, ?_⟩⟩
        · rintro _ rfl _ rfl
          exact fin x v hx (by rw [hv]; exact u.1 c)
        · rintro _ rfl _ rfl
          exact fin x _ hx (u.2 c)
      have u := LBm_y L b rfl
      unfold J9_min_7cf53
      rw [i_lt, hv]
      exact ⟨fun c => fin2 v (by rw [hv]; exact u.1 c), fun c => fin2 _ (u.2 c)⟩
/-! a walk -/
def CX (a : Row) (w : Nat) (X : Nat → Nat) (p : Nat) : Nat := if obs a w p = 0 then 65536 else X p
def ce (p e : Nat) : Nat := if e < 16 then e else 16 + p
theorem flt_cut {f : Nat → Bool} {k : Nat} (h : ∀ i, k ≤ i → f i = false) : ∀ j, (List.range (k + j)).filter f = (List.range k).filter f
  | 0 => rfl
  | j + 1 => by
    rw [show k + (j + 1) = k + j + 1 by omega, List.range_succ, List.filter_append, flt_cut h j]
    simp [h (k + j) (by omega)]
theorem X_st {a : Row} (O : LandOK a) {w : Nat} {X : Nat → Nat} (hX : XOK a w X) {p : Nat} (hp : p < nP a) (z : obs a w p = 0) : X p = 2 ^ (16 + p) := by
  have ew : wys a w p = 2 ^ (16 + p) := if_pos z
  obtain ⟨x1, x2⟩ := hX p hp
  rw [ew] at x2
  apply Nat.eq_of_testBit_eq
  intro i
  rw [Bool.eq_iff_iff]
  constructor
  · exact x2 i
  · intro h
    obtain ⟨j, _, hb⟩ := tb_ex x1 (X_lt O hX hp)
    have e1 := tb_pow (x2 j hb)
    have e2 := tb_pow h
    rw [e2, ← e1]; exact hb
theorem X_16 {a : Row} (O : LandOK a) {w : Nat} {X : Nat → Nat} (hX : XOK a w X) {p : Nat} (hp : p < nP a) (z : ¬ obs a w p = 0) {i : Nat} (hi : 16 ≤ i) : (X p).testBit i = false := by
  have ew : wys a w p = obs a w p := if_neg z
  cases e : (X p).testBit i
  · rfl
  · have := (hX p hp).2 i e
    rw [ew, Nat.testBit_lt_two_pow (Nat.lt_of_lt_of_le (obs_lt O w p) (Nat.pow_le_pow_right (by decide) hi))] at this
    cases this
theorem CX_lt {a : Row} (O : LandOK a) {w : Nat} {X : Nat → Nat} (hX : XOK a w X) {p : Nat} (hp : p < nP a) : CX a w X p < 2 ^ 17 := by
  unfold CX
  by_cases z : obs a w p = 0
  · rw [if_pos z]; decide
  · rw [if_neg z]
    apply Nat.lt_pow_two_of_testBit
    intro i hi
    exact X_16 O hX hp z (by omega)
theorem CX_bl {a : Row} (O : LandOK a) {w : Nat} {X : Nat → Nat} (hX : XOK a w X) {p : Nat} (hp : p < nP a) : ((List.range 17).filter (fun e => (CX a w X p).testBit e)).map (ce p) = bl (X p) := by
  have h8 := O.1.2.1
  unfold CX bl
  by_cases z : obs a w p = 0
  · rw [if_pos z, X_st O hX hp z]
    have e1 : (List.range 17).filter (fun e => Nat.testBit 65536 e) = [16] := by decide
    have e2 : ∀ p, p < 8 → (List.range 24).filter (fun e => Nat.testBit (2 ^ (16 + p)) e) = [16 + p] := by decide
    rw [e1, e2 p (by omega)]
    rfl
  · rw [if_neg z, show 17 = 16 + 1 from rfl, show 24 = 16 + 8 from rfl, flt_cut (k := 16) (fun i hi => X_16 O hX hp z hi), flt_cut (k := 16) (fun i hi => X_16 O hX hp z hi)]
    rw [List.map_congr_left (g := id) (fun e he => ?_), List.map_id]
    rw [List.mem_filter, List.mem_range] at he
    exact if_pos he.1
theorem CX_tb {a : Row} (O : LandOK a) {w : Nat} {X : Nat → Nat} (hX : XOK a w X) {p i : Nat} (hp : p < nP a) (hi : i < 17) (b : (CX a w X p).testBit i = true) : (X p).testBit (ce p i) = true ∧ i = tw (ce p i) := by
  have m : ce p i ∈ bl (X p) := by
    rw [← CX_bl O hX hp]
    exact List.mem_map.mpr ⟨i, List.mem_filter.mpr ⟨List.mem_range.mpr hi, b⟩, rfl⟩
  refine ⟨(mem_bl.mp m).2, ?_⟩
  unfold ce tw
  by_cases c : i < 16
  · rw [if_pos c, if_pos c]
  · rw [if_neg c, if_neg (by omega)]; omega
def SV (a : Row) (w : Nat) (X : Nat → Nat) (h : Hp) : Prop := Lnd h a ∧ gR h 2 = some 14 ∧ gI h 73 1 = nI w ∧ ∀ p, p < nP a → gI h 74 p = nI (CX a w X p)
theorem SV_k {a : Row} {w : Nat} {X : Nat → Nat} {h h1 : Hp} {S : Nat → Nat → Bool} (V : SV a w X h) (F : Fq S h h1) (hS : ∀ o k, (14 ≤ o ∧ o ≤ 19) ∨ (o = 73 ∧ k = 1) ∨ o = 74 → S o k = false) : SV a w X h1 :=
  ⟨Lnd_k V.1 (fun o j h1 h2 => F.1.1 o j (hS o j (Or.inl ⟨h1, h2⟩))), (F.2 2).trans V.2.1, (F.1.1 73 1 (hS _ _ (Or.inr (Or.inl ⟨rfl, rfl⟩)))).trans V.2.2.1, fun p hp => (F.1.1 74 p (hS _ _ (Or.inr (Or.inr rfl)))).trans (V.2.2.2 p hp)⟩
theorem oV_S (o k : Nat) (h : (14 ≤ o ∧ o ≤ 19) ∨ (o = 73 ∧ k = 1) ∨ o = 74) : oV o k = false := by
  simp only [oV, Bool.or_eq_false_iff, Bool.and_eq_false_iff, beq_eq_false_iff_ne]; omega
def RM (h : Hp) (m : Nat → Nat) : Prop := ∀ p, p < 8 → gI h 75 p = nI (m p)
def Gr (a : Row) (X : Nat → Nat) (m m' : Nat → Nat) : Prop := (∀ p q, (m p).testBit q = true → (m' p).testBit q = true) ∧ ∀ p q, (m' p).testBit q = true → (m p).testBit q = true ∨ (p < nP a ∧ ∃ e, e ∈ bl (X p) ∧ ttA a e = q)
theorem Gr.rf (a : Row) (X m : Nat → Nat) : Gr a X m m := ⟨fun _ _ h => h, fun _ _ h => Or.inl h⟩
theorem Gr.tr {a : Row} {X m m1 m2 : Nat → Nat} (g : Gr a X m m1) (k : Gr a X m1 m2) : Gr a X m m2 := ⟨fun p q h => k.1 p q (g.1 p q h), fun p q h => (k.2 p q h).elim (g.2 p q) Or.inr⟩
theorem mean_v {x : Int32} {s : Int} {n : Nat} {R : Rg} (hx : x = Int32.ofInt s) (hn : 1 ≤ n ∧ n ≤ 8) (hs : -792 ≤ s ∧ s ≤ 792) (e1 : R.2.2.1 = s) (e2 : R.2.2.2 = n) : ((x * 840) / nI n).toInt = mR R := by
  have xi : x.toInt = s := by rw [hx]; exact Int32.toInt_ofInt_of_le (by omega) (by omega)
  have l : (840 : Int32).toInt = 840 := by decide
  have m : (x * 840).toInt = s * 840 := by rw [i_mul (by rw [xi, l]; omega), xi, l]
  have ni : (nI n).toInt = n := nI_toInt (by omega)
  have dv : (n : Int) ∣ s * 840 := Int.dvd_trans (dvd840 hn.1 hn.2) (Int.dvd_mul_left _ _)
  have ne : nI n ≠ -1 := fun e => by
    have := congrArg Int32.toInt e
    rw [ni] at this
    have h3 : (-1 : Int32).toInt = -1 := by decide
    omega
  rw [Int32.toInt_div_of_ne_right _ _ ne, m, ni, Int.tdiv_eq_ediv_of_dvd dv]
  unfold mR
  rw [e1, e2, Int.mul_comm]
def bdy (a : Row) (w : Nat) (X : Nat → Nat) (fst d ws pl : Nat) (pay : Int) (n e : Nat) : List Rg := if ttA a e = fst then [(ws ||| 2 ^ e, pl, pay + pIA a w e, n + 1)] else if fst < ttA a e ∧ pl.testBit (ttA a e) = false then rgs (ttA a) (pIA a w) (fun p => bl (X p)) fst d (ttA a e) (ws ||| 2 ^ e) (pl ||| 2 ^ (ttA a e)) (pay + pIA a w e) (n + 1) else []
theorem rgs_bdy (a : Row) (w : Nat) (X : Nat → Nat) (fst d p ws pl : Nat) (pay : Int) (n : Nat) : rgs (ttA a) (pIA a w) (fun p => bl (X p)) fst (d + 1) p ws pl pay n = (bl (X p)).flatMap (bdy a w X fst d ws pl pay n) := rfl
theorem pre_s {f : Nat → Bool} {i : Nat} : (List.range (i + 1)).filter f = (List.range i).filter f ++ (if f i = true then [i] else []) := by
  rw [List.range_succ, List.filter_append]
  congr 1
  cases e : f i <;> simp [e]
theorem c_walk {a : Row} {w : Nat} {X : Nat → Nat} {fst : Nat} (O : LandOK a) (hw : w < 10) (hX : XOK a w X) : ∀ (d n p pl ws : Nat) (pay : Int) (h0 : Hp) (l : List Rg) (m : Nat → Nat) (Q : Hp → Prop), d + n = 9 → p < nP a → pl < 2 ^ nP a → n + 1 ≤ cn8 pl → (-99 * (n : Int) ≤ pay ∧ pay ≤ 99 * (n : Int)) → SV a w X h0 → gI h0 73 2 = nI fst → fst < nP a → NT l h0 → RM h0 m → (∀ h1 m', Fq oV h0 h1 → NT (l ++ rgs (ttA a) (pIA a w) (fun p => bl (X p)) fst d p ws pl pay n) h1 → RM h1 m' → Gr a X m m' → (∀ e, e ∈ bl (X p) → (m' p).testBit (ttA a e) = true) → Q h1) → Survey_walk (d + 1) (nI p) (nI pl) (Int32.ofInt pay) (nI (n + 1)) h0 Q := by
  have h8 := O.1.2.1
  intro d
  induction d with
  | zero =>
    intro n p pl ws pay h0 l m Q hd hp hpl hn
    have := cn8_le pl
    omega
  | succ d ih =>
    intro n p pl ws pay h0 l m Q hd hp hpl hn hpay V0 hroot hf N0 M0 k
    have c8 := cn8_le pl
    have cx := CX_lt O hX hp
    have pl31 : pl < 2 ^ 31 := Nat.lt_of_lt_of_le hpl (Nat.pow_le_pow_right (by decide) (by omega))
    show Survey_walk_B (Survey_walk (d + 1)) _ _ _ _ _ _
    unfold Survey_walk_B
    refine ⟨fun e => by rw [V0.2.1] at e; (cases e), fun _ _ => brF (nI_pos (by omega)) (pk_le 8 p (fun c => absurd c (by omega)) (fun _ => pk_lt (n + 1) 1 (fun c => absurd c (by omega)) (fun _ => pk_le (n + 1) 8 (fun _ => ?_) (fun c => absurd c (by omega)))))⟩
    refine pk_loop (σ := Hp) (fun n' i h => Survey_walk_L37 (nI p) (nI pl) (Int32.ofInt pay) (nI (n + 1)) (Survey_walk (d + 1)) Q n' (nI i) h) (fun i h => Fq oV h0 h ∧ NT (l ++ (((List.range i).filter (fun e => (CX a w X p).testBit e)).map (ce p)).flatMap (bdy a w X fst d ws pl pay n)) h ∧ ∃ m', RM h m' ∧ Gr a X m m' ∧ ∀ e, e ∈ ((List.range i).filter (fun e => (CX a w X p).testBit e)).map (ce p) → (m' p).testBit (ttA a e) = true) 17 0 h0 (by omega) ⟨Fq.rf _ _, by simpa using N0, m, M0, Gr.rf a X m, fun e he => by cases he⟩ (fun n' h1 J => ?_) (fun n' i h hi J hk => ?_)
    · obtain ⟨F, N, m', M, G, C⟩ := J
      rw [CX_bl O hX hp] at N C
      unfold Survey_walk_L37
      exact pk_lt 16 17 (fun _ => k h1 m' F N M G C) (fun c => absurd c (by omega))
    · obtain ⟨F, N, m', M, G, C⟩ := J
      have V := SV_k V0 F oV_S
      unfold Survey_walk_L37
      refine pk_lt 16 i (fun c => absurd c (by omega)) (fun _ => ⟨pk_in p 8 (by omega), ?_⟩)
      rintro J163 rfl
      rw [cl p, V.2.2.2 p hp, z_bit (by omega) (by omega)]
      refine ⟨fun b => ?_, fun b => ?_⟩
      · rintro _ rfl
        rw [nI_1 i]
        refine hk h ⟨F, ?_, m', M, G, ?_⟩
        · rw [pre_s, if_neg b, List.append_nil]; exact N
        · rw [pre_s, if_neg b, List.append_nil]; exact C
      · obtain ⟨b1, b2⟩ := CX_tb O hX hp hi b
        obtain ⟨e, he⟩ : ∃ e, ce p i = e := ⟨_, rfl⟩
        rw [he] at b1 b2
        have we := X_ok O hX hp b1
        have tl := ttA_lt O hp we
        have pb := ppA_bd a w e
        have pe : (ppA a w e).toInt = pIA a w e := rfl
        have eb : e ∈ bl (X p) := (X_bl O hX hp).mpr b1
        refine ⟨V.2.1, ?_⟩
        rw [show nI i = nI (tw e) by rw [← b2]]
        refine c_tgt V.1 O we ⟨V.2.1, ?_⟩
        rw [V.2.2.1]
        refine c_pay V.1 O hw we ?_
        rw [← b2]
        have ev : Int32.ofInt pay + ppA a w e = Int32.ofInt (pay + pIA a w e) := by
          rw [Int32.ofInt_add, ← pe, Int32.ofInt_toInt]
        rw [ev]
        rintro _ rfl
        refine ⟨pk_in p 8 (by omega), pk_in p 8 (by omega), ?_⟩
        rw [M p (by omega), z_1 (ttA a e) (by omega), z_or]
        rintro _ rfl
        obtain ⟨m2, hm2⟩ : ∃ m2 : Nat → Nat, m2 = fun q => if q = p then m' p ||| 2 ^ ttA a e else m' q := ⟨_, rfl⟩
        have Fs : Fq oV h0 (sI h 75 p (nI (m' p ||| 2 ^ ttA a e))) := Fq.sI F rfl
        have Ms : RM (sI h 75 p (nI (m' p ||| 2 ^ ttA a e))) m2 := fun q hq => by
          rw [hm2]
          show _ = nI (if q = p then m' p ||| 2 ^ ttA a e else m' q)
          by_cases c : q = p
          · subst c; rw [sI_s, if_pos rfl]
          · rw [sI_k c, if_neg c]; exact M q hq
        have m2p : m2 p = m' p ||| 2 ^ ttA a e := by rw [hm2]; exact if_pos rfl
        have m2n : ∀ q, q ≠ p → m2 q = m' q := fun q hq => by rw [hm2]; exact if_neg hq
        have Gs : Gr a X m' m2 := by
          refine ⟨fun x q hh => ?_, fun x q hh => ?_⟩
          · by_cases c : x = p
            · subst c; rw [m2p, or_tb, hh]; rfl
            · rw [m2n x c]; exact hh
          · by_cases c : x = p
            · subst c
              rw [m2p, or_tb, Bool.or_eq_true, decide_eq_true_iff] at hh
              rcases hh with hh | hh
              · exact Or.inl hh
              · exact Or.inr ⟨hp, e, eb, hh⟩
            · rw [m2n x c] at hh; exact Or.inl hh
        have Ns : NT (l ++ (((List.range i).filter (fun e => (CX a w X p).testBit e)).map (ce p)).flatMap (bdy a w X fst d ws pl pay n)) (sI h 75 p (nI (m' p ||| 2 ^ ttA a e))) := by
          refine ⟨by rw [sI_o (by decide)]; exact N.1, fun q hq => ?_⟩
          rw [sI_o (by decide), sI_o (by decide)]; exact N.2 q hq
        have Vs := SV_k V0 Fs oV_S
        have r2 : gI (sI h 75 p (nI (m' p ||| 2 ^ ttA a e))) 73 2 = nI fst := (Fs.1.1 73 2 rfl).trans hroot
        -- what comes behind
        have go : ∀ (h2 : Hp) (m3 : Nat → Nat), Fq oV (sI h 75 p (nI (m' p ||| 2 ^ ttA a e))) h2 → NT ((l ++ (((List.range i).filter (fun e => (CX a w X p).testBit e)).map (ce p)).flatMap (bdy a w X fst d ws pl pay n)) ++ bdy a w X fst d ws pl pay n e) h2 → RM h2 m3 → Gr a X m2 m3 → ∀ v3 : Int32, v3 = (nI i + 1) → Survey_walk_L37 (nI p) (nI pl) (Int32.ofInt pay) (nI (n + 1)) (Survey_walk (d + 1)) Q n' v3 h2 := by
          rintro h2 m3 F2 N2 M2 G2 _ rfl
          rw [nI_1 i]
          refine hk h2 ⟨Fs.tr F2, ?_, m3, M2, (G.tr Gs).tr G2, fun x hx => ?_⟩
          · rw [pre_s, if_pos b, List.map_append, List.flatMap_append, ← List.append_assoc]
            have : ([i].map (ce p)).flatMap (bdy a w X fst d ws pl pay n) = bdy a w X fst d ws pl pay n e := by
              rw [List.map_cons, he, List.map_nil, List.flatMap_cons, List.flatMap_nil, List.append_nil]
            rw [this]; exact N2
          · rw [pre_s, if_pos b, List.map_append] at hx
            rcases List.mem_append.mp hx with c | c
            · exact G2.1 _ _ (Gs.1 _ _ (C x c))
            · rw [List.map_cons, List.map_nil, he] at c
              rw [List.mem_singleton.mp c]
              refine G2.1 _ _ ?_
              rw [m2p, or_tb, decide_eq_true rfl, Bool.or_true]
        rw [r2]
        have te : nI (ttA a e) = nI fst ↔ ttA a e = fst := nI_eq (by omega) (by omega)
        rw [te]
        refine ⟨fun c => pk_le (ttA a e) fst (fun c2 => ?_) (fun c2 => ?_), fun c => ⟨nI_ne0 (by omega) (by omega), ?_⟩⟩
        · refine go _ m2 (Fq.rf _ _) ?_ Ms (Gr.rf _ _ _)
          unfold bdy
          rw [if_neg c, if_neg (fun z => by omega), List.append_nil]; exact Ns
        · rw [z_bit0 pl31 (by omega)]
          refine ⟨fun c3 => ?_, fun c3 => ?_⟩
          · refine go _ m2 (Fq.rf _ _) ?_ Ms (Gr.rf _ _ _)
            unfold bdy
            rw [if_neg c, if_neg (fun z => c3 z.2), List.append_nil]; exact Ns
          · rw [z_or, nI_1]
            refine ih (n + 1) (ttA a e) (pl ||| 2 ^ ttA a e) (ws ||| 2 ^ e) (pay + pIA a w e) _ _ m2 _ (by omega) tl (or_lt8 hpl tl) ?_ (by omega) Vs r2 hf Ns Ms (fun h2 m3 F2 N2 M2 G2 _ => go h2 m3 F2 ?_ M2 G2)
            · have := cn8_add (n := pl) (q := ttA a e) (by omega) c3
              omega
            · unfold bdy
              rw [if_neg c, if_pos ⟨c2, c3⟩]; exact N2
        · refine c_note (R := (ws ||| 2 ^ e, pl, pay + pIA a w e, n + 1)) Ns rfl pl31 (mean_v rfl ⟨by omega, by omega⟩ (by omega) rfl rfl) (fun h2 F2 N2 => go h2 m2 (F2.mo oV_Nt) ?_ (fun q hq => ?_) (Gr.rf _ _ _))
          · unfold bdy
            rw [if_pos c]; exact N2
          · rw [F2.1.1 75 q rfl]; exact Ms q hq
