/-! leaves of the reference -/
theorem fa {α : Type} {v : α} {P : α → Prop} (k : P v) : ∀ x, x = v → P x := fun x e => by rw [e]; exact k
theorem faJ {α : Sort 2} {v : α} {P : α → Prop} (k : P v) : ∀ x, x = v → P x := fun x e => by rw [e]; exact k
theorem exN {x : Int32} {n : Nat} (hn : n < 2 ^ 31) : (∃ r, r < n ∧ x = nI r) ↔ (0 ≤ x.toInt ∧ x.toInt < n) := by
  constructor
  · rintro ⟨r, hr, rfl⟩
    rw [nI_toInt (by omega)]; omega
  · rintro ⟨h1, h2⟩
    exact ⟨x.toInt.toNat, by omega, nI_i x h1⟩
section MLEAVES
variable {h : Hp} {a : Row} {Q : Int32 → Hp → Prop}
theorem m_inY {x lo hi : Int64} (h1 : lo.toInt ≤ x.toInt) (h2 : x.toInt ≤ hi.toInt) (k : Q 1 h) : M_within x lo hi h Q := by
  unfold M_within
  refine brF ?_ (brF ?_ k)
  · rw [l_lt]; omega
  · rw [l_lt]; omega
theorem m_inN {x lo hi : Int64} (h1 : x.toInt < lo.toInt ∨ hi.toInt < x.toInt) (k : Q 0 h) : M_within x lo hi h Q := by
  unfold M_within
  by_cases q : x < lo
  · exact brT q k
  · refine brF q (brT ?_ k)
    rw [l_lt] at q ⊢; omega
/-- a test of an int -/
theorem m_in {x : Int32} {lo hi : Int64} (kY : lo.toInt ≤ x.toInt → x.toInt ≤ hi.toInt → Q 1 h) (kN : ¬ (lo.toInt ≤ x.toInt ∧ x.toInt ≤ hi.toInt) → Q 0 h) : M_within x.toInt64 lo hi h Q := by
  by_cases q : lo.toInt ≤ x.toInt ∧ x.toInt ≤ hi.toInt
  · exact m_inY (by rw [i_l]; exact q.1) (by rw [i_l]; exact q.2) (kY q.1 q.2)
  · exact m_inN (by rw [i_l]; omega) (kN q)
theorem m_plY (e1 : gI h 99 1 = a 1) (O : LandOK a) {p : Nat} (hp : p < nP a) (k : Q 1 h) : M_isPlace ((nI p).toInt64) h Q := by
  obtain ⟨⟨p1, h8, ea⟩, -⟩ := O
  unfold M_isPlace
  rw [e1, ea, show (nI (nP a) - 1 : Int32) = nI (nP a - 1) from pk_sub p1]
  refine m_inY ?_ ?_ ⟨Or.inr rfl, k⟩
  · rw [i_l, nI_toInt (by omega)]; show (0 : Int) ≤ _; omega
  · rw [i_l, i_l, nI_toInt (by omega), nI_toInt (by omega)]; omega
theorem m_plN (e1 : gI h 99 1 = a 1) (O : LandOK a) {x : Int64} (hx : ¬ (0 ≤ x.toInt ∧ x.toInt < nP a)) (k : Q 0 h) : M_isPlace x h Q := by
  obtain ⟨⟨p1, h8, ea⟩, -⟩ := O
  unfold M_isPlace
  rw [e1, ea, show (nI (nP a) - 1 : Int32) = nI (nP a - 1) from pk_sub p1]
  refine m_inN ?_ ⟨Or.inl rfl, k⟩
  rw [i_l, nI_toInt (by omega)]
  have : (0 : Int64).toInt = 0 := rfl
  omega
theorem m_plNi (e1 : gI h 99 1 = a 1) (O : LandOK a) {x : Int32} (hx : ¬ ∃ p, p < nP a ∧ x = nI p) (k : Q 0 h) : M_isPlace x.toInt64 h Q := by
  refine m_plN e1 O (fun q => hx ((exN (by have := O.1.2.1; omega)).mpr ?_)) k
  rw [i_l] at q; exact q
theorem nRm1 (O : LandOK a) : (nI (nR a) - 1 : Int32).toInt = (nR a : Int) - 1 := by
  have := O.2.1.1
  rw [i_sub (by rw [nI_toInt (by omega)]; show _ ≤ _ - (1 : Int) ∧ _ - (1 : Int) < _; omega), nI_toInt (by omega)]
  rfl
theorem m_rdY (e2 : gI h 99 2 = a 2) (O : LandOK a) {x : Int64} (h0 : 0 ≤ x.toInt) (h1 : x.toInt < nR a) (k : Q 1 h) : M_isRoad x h Q := by
  unfold M_isRoad
  rw [e2, O.2.1.2]
  refine m_inY h0 ?_ ⟨Or.inr rfl, k⟩
  rw [i_l, nRm1 O]; omega
theorem m_rdYi (e2 : gI h 99 2 = a 2) (O : LandOK a) {r : Nat} (hr : r < nR a) (k : Q 1 h) : M_isRoad ((nI r).toInt64) h Q := by
  have := O.2.1.1
  refine m_rdY e2 O ?_ ?_ k
  · rw [i_l, nI_toInt (by omega)]; omega
  · rw [i_l, nI_toInt (by omega)]; omega
theorem m_rdN (e2 : gI h 99 2 = a 2) (O : LandOK a) {x : Int64} (hx : ¬ (0 ≤ x.toInt ∧ x.toInt < nR a)) (k : Q 0 h) : M_isRoad x h Q := by
  unfold M_isRoad
  rw [e2, O.2.1.2]
  refine m_inN ?_ ⟨Or.inl rfl, k⟩
  rw [i_l, nRm1 O]
  have : (0 : Int64).toInt = 0 := rfl
  omega
theorem m_rdNi (e2 : gI h 99 2 = a 2) (O : LandOK a) {x : Int32} (hx : ¬ ∃ r, r < nR a ∧ x = nI r) (k : Q 0 h) : M_isRoad x.toInt64 h Q := by
  refine m_rdN e2 O (fun q => hx ((exN (by have := O.2.1.1; omega)).mpr ?_)) k
  rw [i_l] at q; exact q
theorem mine_lt (O : LandOK a) : (a 3).toInt.toNat < 2 ^ 31 ∧ a 3 = nI (a 3).toInt.toNat ∧ (a 3).toInt.toNat < 2 ^ nP a := by
  obtain ⟨m, hm, hl⟩ := O.2.2.2.2.2
  have h8 := O.1.2.1
  have hm31 : m < 2 ^ 31 := Nat.lt_of_lt_of_le hl (Nat.pow_le_pow_right (by decide) (by omega))
  have e : (a 3).toInt.toNat = m := by rw [hm, nI_toInt hm31]; rfl
  rw [e]; exact ⟨hm31, hm, hl⟩
theorem m_mine (e3 : gI h 99 3 = a 3) (O : LandOK a) {p : Nat} (hp : p < 8) (k : Q (if mnA a p then 1 else 0) h) : M_isMine (nI p) h Q := by
  obtain ⟨h1, h2, -⟩ := mine_lt O
  unfold M_isMine
  rw [e3, h2]
  refine s_isIn h1 (by omega) ⟨?_, k⟩
  by_cases q : (a 3).toInt.toNat.testBit p = true
  · rw [if_pos q]; exact Or.inr rfl
  · rw [if_neg q]; exact Or.inl rfl
theorem m_bitsOf {n : Nat} (hn : n < 2 ^ 24) (k : Q (nI (popc 24 n)) h) : M_bitsOf (nI n) h Q := by
  unfold M_bitsOf
  refine pk_loop (σ := Int32) (fun n' i s => M_bitsOf_L4 (nI n) Q n' s (nI i) h) (fun i s => s = nI (popc i n)) 24 0 _ (by omega) rfl (fun n' s hs => ?_) (fun n' i s hi hs hk => ?_)
  · unfold M_bitsOf_L4
    refine pk_le 24 24 (fun _ => by rw [hs]; exact k) (fun q => absurd q (by omega))
  · unfold M_bitsOf_L4
    refine pk_le 24 i (fun q => absurd q (by omega)) (fun _ => ?_)
    rintro _ rfl _ rfl
    rw [nI_1]
    refine hk _ ?_
    rw [hs, z_shr (by omega) (by omega), z_a1, nI_add, popc_add i 1]
    rfl
theorem m_firstIn {n : Nat} (h0 : n ≠ 0) (hn : n < 2 ^ 24) (k : Q (nI (low n)) h) : M_firstIn (nI n) h Q := by
  obtain ⟨l1, l2, l3⟩ := low_nz h0 hn (by decide)
  unfold M_firstIn
  refine pk_loop (σ := Unit) (fun n' i _ => M_firstIn_L2 (nI n) Q n' (nI i) h) (fun i _ => i ≤ low n) (low n) 0 () (by omega) (by omega) (fun n' _ _ => ?_) (fun n' i _ hi _ hk => ?_)
  · unfold M_firstIn_L2
    refine s_isIn (by omega) (by omega) ?_
    rw [if_pos l2]
    exact brF' (by decide) k
  · unfold M_firstIn_L2
    refine s_isIn (by omega) (by omega) ?_
    rw [if_neg (by rw [l3 i hi]; decide)]
    refine brT' rfl ?_
    rintro _ rfl
    rw [nI_1]
    exact hk () (by omega)
end MLEAVES
/-! the ways: canonical numbers, 16 + p for staying at p -/
theorem wys_lt {a : Row} (O : LandOK a) {w p : Nat} (hp : p < 8) : wys a w p < 2 ^ 24 ∧ wys a w p ≠ 0 := by
  have := obs_lt O w p
  unfold wys
  split
  · exact ⟨Nat.pow_lt_pow_right (by decide) (by omega), Nat.ne_of_gt (Nat.two_pow_pos _)⟩
  · exact ⟨by omega, by assumption⟩
theorem wys_tb {a : Row} (O : LandOK a) {w p i : Nat} : (wys a w p).testBit i = true ↔ (i < 16 ∧ i < nR a ∧ fromA a i = p ∧ opnA a w i = true) ∨ (obs a w p = 0 ∧ i = 16 + p) := by
  have h16 := O.2.1.1
  unfold wys
  by_cases q : obs a w p = 0
  · rw [if_pos q, Nat.testBit_two_pow, decide_eq_true_iff]
    constructor
    · intro e; exact Or.inr ⟨q, e.symm⟩
    · rintro (⟨h1, h2, h3, h4⟩ | ⟨_, e⟩)
      · have := (obs_tb (a := a) (w := w) (p := p) (i := i)).mpr ⟨h2, h3, h4⟩
        rw [q, Nat.zero_testBit] at this; cases this
      · exact e.symm
  · rw [if_neg q, obs_tb]
    constructor
    · intro e; exact Or.inl ⟨by omega, e⟩
    · rintro (⟨_, e⟩ | ⟨e, _⟩)
      · exact e
      · exact absurd e q
def tw (e : Nat) : Nat := if e < 16 then e else 16
theorem low_cwy {a : Row} (O : LandOK a) {w p : Nat} (hp : p < 8) : low (cwy a w p) = tw (low (wys a w p)) := by
  unfold cwy wys tw
  by_cases q : obs a w p = 0
  · rw [if_pos q, if_pos q]
    have e1 : low 65536 = 16 := by decide
    have e2 : low (2 ^ (16 + p)) = 16 + p := low_of Nat.testBit_two_pow_self (by omega) (fun i hi => by rw [Nat.testBit_two_pow, decide_eq_false_iff_not]; omega)
    rw [e1, e2, if_neg (by omega)]
  · rw [if_neg q, if_neg q]
    have := (low_nz q (obs_lt O w p) (by decide)).1
    rw [if_pos this]
/-- the way that a plan goes -/
def wayP (a : Row) (w : Nat) (x : Int32) (p : Nat) : Nat := if x ≠ -1 ∧ (wys a w p).testBit x.toInt.toNat = true then x.toInt.toNat else low (wys a w p)
def plOK (a : Row) (x : Int32) (p : Nat) : Prop := x = -1 ∨ ∃ r, r < nR a ∧ x = nI r ∧ fromA a r = p
/-- e is a way from p -/
def wayOK (a : Row) (w p e : Nat) : Prop := (e < 16 ∧ e < nR a ∧ fromA a e = p ∧ opnA a w e = true) ∨ (obs a w p = 0 ∧ e = 16 + p)
theorem wayP_ok {a : Row} (O : LandOK a) {w p : Nat} (hp : p < 8) (x : Int32) : wayOK a w p (wayP a w x p) := by
  unfold wayP
  by_cases q : x ≠ -1 ∧ (wys a w p).testBit x.toInt.toNat = true
  · rw [if_pos q]; exact (wys_tb O).mp q.2
  · rw [if_neg q]
    have := wys_lt O (w := w) hp
    exact (wys_tb O).mp (low_nz this.2 this.1 (by decide)).2.1
theorem low_ok {a : Row} (O : LandOK a) {w p : Nat} (hp : p < 8) : wayOK a w p (low (wys a w p)) := by
  have := wys_lt O (w := w) hp
  exact (wys_tb O).mp (low_nz this.2 this.1 (by decide)).2.1
def ttA (a : Row) (e : Nat) : Nat := if e < 16 then toA a e else e - 16
def ppA (a : Row) (w e : Nat) : Int32 := if e < 16 then payA a w e else 0
theorem ttA_lt {a : Row} (O : LandOK a) {w p e : Nat} (hp : p < nP a) (h : wayOK a w p e) : ttA a e < nP a := by
  unfold ttA
  rcases h with ⟨h1, h2, _, _⟩ | ⟨_, rfl⟩
  · rw [if_pos h1]; exact (O.2.2.1 e h2).2.2
  · rw [if_neg (by omega)]; omega
theorem way24 {a : Row} (O : LandOK a) {w p e : Nat} (hp : p < 8) (h : wayOK a w p e) : e < 24 := by
  rcases h with ⟨h1, _⟩ | ⟨_, rfl⟩ <;> omega
section PLANS
variable {h : Hp} {a : Row} {Q : Int32 → Hp → Prop}
theorem m_planned (O : LandOK a) {w p : Nat} {x : Int32} (hW : ∀ q, q < 8 → gI h 108 q = if q < nP a then nI (wys a w q) else 0) (hp : p < nP a) (ex : gI h 99 (62 + p) = x) (hx : plOK a x p) (k : Q (nI (wayP a w x p)) h) : M_planned (nI p) h Q := by
  have h8 := O.1.2.1
  have hw := wys_lt O (w := w) (p := p) (by omega)
  unfold M_planned
  have e62 : (62 : Int32) + nI p = nI (62 + p) := nI_add 62 p
  rw [e62]
  refine ⟨pk_in (62 + p) 3276 (by omega), ?_⟩
  rw [cl (62 + p), ex]
  intro v1 hv1
  rw [hv1]
  clear hv1 v1
  rintro J rfl
  have e108 : gI h 108 p = nI (wys a w p) := by rw [hW p (by omega), if_pos hp]
  rw [cl p, e108]
  have fin : (¬ (x ≠ -1 ∧ (wys a w p).testBit x.toInt.toNat = true)) → vp_in (nI p) 8 ∧ M_firstIn (gI h 108 p) h (fun r3 h4 => Q r3 h4) := by
    intro q
    rw [e108]
    unfold wayP at k
    rw [if_neg q] at k
    exact ⟨pk_in p 8 (by omega), m_firstIn hw.2 hw.1 k⟩
  refine ⟨fun e => fin (fun q => q.1 e), fun e => ⟨pk_in p 8 (by omega), ?_⟩⟩
  rcases hx with hx | ⟨r, hr, hx, hf⟩
  · exact absurd hx e
  · have h16 := O.2.1.1
    have er : x.toInt.toNat = r := by rw [hx, nI_toInt (by omega)]; rfl
    rw [hx]
    refine s_isIn (by omega) (by omega) ?_
    by_cases q : (wys a w p).testBit r = true
    · rw [if_pos q]
      refine brF (by decide) ?_
      unfold wayP at k
      rw [er, if_pos ⟨e, q⟩] at k
      exact k
    · rw [if_neg q]
      refine brT rfl (fin (fun q2 => q ?_))
      rw [er] at q2; exact q2.2
theorem m_told {e : Nat} (he : e < 24) (k : Q (nI (tw e)) h) : M_toldWay (nI e) h Q := by
  unfold M_toldWay
  unfold tw at k
  refine pk_le 16 e (fun q => ?_) (fun q => ?_)
  · rw [if_neg (by omega)] at k; exact k
  · rw [if_pos q] at k; exact k
theorem c_planOf {s : Row} {o pl : Nat} (R : StdR h o pl s) (hrf : rf o 4 = pl) {p : Nat} (hp : p < 8) (k : Q (s (4 + p)) h) : Stand_planOf o (nI p) h Q := by
  unfold Stand_planOf
  refine brF (nI_pos (by omega)) (pk_le 8 p (fun q => absurd q (by omega)) (fun _ => ⟨pk_in p 8 hp, ?_⟩))
  rw [pk_cl p, hrf, R.2.2.2.2 p hp]
  exact k
theorem c_wayByPlan {s : Row} {o pl : Nat} (L : Lnd h a) (O : LandOK a) (R : StdR h o pl s) (hrf : rf o 4 = pl) {w p : Nat} (hw : w < 10) (ew : s 3 = nI w) (hp : p < 8) (hx : plOK a (s (4 + p)) p) (k : Q (nI (tw (wayP a w (s (4 + p)) p))) h) : Stand_wayByPlan o (nI p) h Q := by
  have h16 := O.2.1.1
  unfold Stand_wayByPlan
  refine c_planOf R hrf hp ?_
  have eg : gI h o 3 = nI w := R.2.2.2.1.trans ew
  have fin : (¬ (s (4 + p) ≠ -1 ∧ (wys a w p).testBit (s (4 + p)).toInt.toNat = true)) → Land_waysFrom (gI h o 3) (nI p) h (fun r5 h6 => J6_numberOfTrailingZeros_0f7a4 r5 h6 (fun r7 h8 => Q r7 h8)) := by
    intro q
    rw [eg]
    unfold wayP at k
    rw [if_neg q, ← low_cwy O hp] at k
    refine c_waysFrom L O hw hp (j_ntz (m := 17) ?_ (cwy_lt O w p) k)
    unfold cwy
    split
    · decide
    · assumption
  rcases hx with hx | ⟨r, hr, hx, hf⟩
  · refine c_isOpenN L O ?_ (brT rfl (fin (fun q => q.1 hx)))
    rintro ⟨r, h1, h2⟩
    rw [hx] at h2
    have := congrArg Int32.toInt h2
    rw [nI_toInt (by omega)] at this
    have h3 : (-1 : Int32).toInt = -1 := by decide
    omega
  · have er : (s (4 + p)).toInt.toNat = r := by rw [hx, nI_toInt (by omega)]; rfl
    have hne : s (4 + p) ≠ -1 := by
      intro q
      rw [hx] at q
      have := congrArg Int32.toInt q
      rw [nI_toInt (by omega)] at this
      have h3 : (-1 : Int32).toInt = -1 := by decide
      omega
    have et : (wys a w p).testBit r = true ↔ opnA a w r = true := by
      rw [wys_tb O]
      constructor
      · rintro (⟨_, _, _, h4⟩ | ⟨_, h5⟩)
        · exact h4
        · omega
      · exact fun h4 => Or.inl ⟨by omega, hr, hf, h4⟩
    rw [hx, eg]
    refine c_isOpen L O hw hr ?_
    by_cases q : opnA a w r = true
    · rw [if_pos q]
      refine brF (by decide) ?_
      unfold wayP at k
      rw [er, if_pos ⟨hne, et.mpr q⟩] at k
      unfold tw at k
      rw [if_pos (by omega)] at k
      exact k
    · rw [if_neg q]
      refine brT rfl (fin (fun q2 => q (et.mp ?_)))
      rw [er] at q2; exact q2.2
/-- pay and target of a way, as the class tells it -/
theorem c_pay (L : Lnd h a) (O : LandOK a) {w p e : Nat} (hw : w < 10) (he : wayOK a w p e) (k : Q (ppA a w e) h) : Land_payOf (nI w) (nI (tw e)) h Q := by
  unfold ppA at k
  unfold tw
  rcases he with ⟨h1, h2, _, _⟩ | ⟨_, rfl⟩
  · rw [if_pos h1] at k ⊢; exact c_payOf L O hw h2 k
  · rw [if_neg (by omega)] at k ⊢
    exact c_payOfN L O (noRoad O (by have := O.2.1.1; omega) (by omega)) k
theorem c_tgt (L : Lnd h a) (O : LandOK a) {w p e : Nat} (he : wayOK a w p e) (k : Q (nI (ttA a e)) h) : Land_target (nI p) (nI (tw e)) h Q := by
  unfold ttA at k
  unfold tw
  rcases he with ⟨h1, h2, _, _⟩ | ⟨_, rfl⟩
  · rw [if_pos h1] at k ⊢; exact c_target L O h2 k
  · rw [if_neg (by omega)] at k ⊢
    refine c_targetN L O (noRoad O (by have := O.2.1.1; omega) (by omega)) ?_
    rw [show 16 + p - 16 = p by omega] at k
    exact k
end PLANS
