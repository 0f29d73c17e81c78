/-! weathers, ask: both -/
theorem c_weathers {h : Hp} {Q : Int32 → Hp → Prop} {x : Int32} {B : Int} (I : Inv B h) (kN : (¬ ∃ t, t < 4 ∧ x = nI t) → Q (-2) h) (kM : ∀ t, t < 4 → x = nI t → gI h 124 t = -1 → Q (-6) h) (k4 : ∀ t m, t < 4 → x = nI t → ¬ gI h 124 t = -1 → gI h 125 t = nI m → m ≤ 40 → ¬ (1 ≤ m ∧ m ≤ 8) → Q (-4) h)
    (kb : ∀ t m, t < 4 → x = nI t → ¬ gI h 124 t = -1 → gI h 125 t = nI m → (1 ≤ m ∧ m ≤ 8) → (∃ j, j < m ∧ ¬ gdW (rowM h) (gJ h 126 (40 * t + j)).toInt) → Q (-3) h)
    (k : ∀ t m, t < 4 → x = nI t → ¬ gI h 124 t = -1 → gI h 125 t = nI m → (1 ≤ m ∧ m ≤ 8) → (∀ j, j < m → gdW (rowM h) (gJ h 126 (40 * t + j)).toInt) → Q (nI (bset (okW (rowM h) (fun j => (gJ h 126 (40 * t + j)).toInt) m) 10)) h) : C_weathers x h Q := by
  obtain ⟨O, L⟩ := I.1
  have T : iTray h := I.2.2.2.2.1
  unfold C_weathers
  by_cases hx : ∃ t, t < 4 ∧ x = nI t
  · obtain ⟨t, ht, rfl⟩ := hx
    obtain ⟨r1, r2⟩ := rf46 t ht
    obtain ⟨⟨t1, t2, t3⟩, m, hm, em, ej⟩ := T t ht
    refine c_tray ht (brF' (by decide) ⟨pk_in t 4 ht, ?_⟩)
    rw [cl t, r1]
    unfold Tray_isMissing
    rw [← t1]
    by_cases hs : gI h 124 t = -1
    · exact brT' hs (brF (by decide) (kM t ht rfl hs))
    · refine brF' hs (brT rfl ?_)
      rw [← t2, em]
      refine pk_lt m 1 (fun q => k4 t m ht rfl hs em hm (by omega)) (fun q1 => pk_le m 8 (fun q2 => ?_) (fun q => k4 t m ht rfl hs em hm (by omega)))
      exact c_weathersL (f := fun j => (gJ h 126 (40 * t + j)).toInt) L O q2 (by rw [← t2]; exact em) (by rw [r2]; omega) (fun j hj => by show (gJ h (47 + 2 * t + 1) j).toInt = _; rw [show 47 + 2 * t + 1 = 48 + 2 * t by omega, ej j hj]) (kb t m ht rfl hs em ⟨q1, q2⟩) (k t m ht rfl hs em ⟨q1, q2⟩)
  · exact c_trayN hx (brT' rfl (kN hx))
/-- the reference's test, told tray by tray -/
theorem m_noPaidN {h : Hp} {Q : Int32 → Hp → Prop} {x : Int32} (hx : ¬ ∃ t, t < 4 ∧ x = nI t) (k : Q (-2) h) : M_noPaid x h Q := by
  unfold M_noPaid
  exact m_noTray (fun _ => brF (by decide) k) (fun t ht e _ => absurd ⟨t, ht, e⟩ hx) (fun t ht e _ => absurd ⟨t, ht, e⟩ hx)
theorem m_noPaidM {h : Hp} {Q : Int32 → Hp → Prop} {t : Nat} (ht : t < 4) (hs : gI h 124 t = -1) (k : Q (-6) h) : M_noPaid (nI t) h Q := by
  unfold M_noPaid
  refine m_noTray (fun q => absurd ⟨t, ht, rfl⟩ q) (fun _ _ _ _ => brF (by decide) k) (fun t' ht' et hn => ?_)
  rw [nI_eq (by omega) (by omega)] at et
  subst et
  exact absurd hs hn
theorem m_noPaid4 {h : Hp} {Q : Int32 → Hp → Prop} {t m : Nat} (ht : t < 4) (hs : ¬ gI h 124 t = -1) (em : gI h 125 t = nI m) (hm : m ≤ 40) (h8 : ¬ (1 ≤ m ∧ m ≤ 8)) (k : Q (-4) h) : M_noPaid (nI t) h Q := by
  unfold M_noPaid
  refine m_noTray (fun q => absurd ⟨t, ht, rfl⟩ q) (fun t' ht' et hn => ?_) (fun t' ht' et hn => brT rfl ⟨pk_in t 4 ht, ?_⟩)
  · rw [nI_eq (by omega) (by omega)] at et
    subst et
    exact absurd hn hs
  · rw [cl t, em]
    have l1 : (1 : Int64).toInt = 1 := rfl
    have l8 : (8 : Int64).toInt = 8 := rfl
    exact m_inN (by rw [i_l, nI_toInt (by omega)]; omega) (brT' rfl k)
theorem sim_weathers {B : Int} {x : Int32} : Sim B B (C_weathers x) (M_weathers x) := by
  intro h K I k
  obtain ⟨O, L⟩ := I.1
  have fin : ∀ (h2 : Hp), Fp scM h h2 → K h2 := fun h2 f2 => k h2 (Inv_k I (f2.mo scM_2))
  have h99 : ∀ j, gI (sI h 98 0 0) 99 j = rowM h j := fun j => by rw [sI_o (by decide)]; rfl
  refine c_weathers I (fun hx => ?_) (fun t ht ex hs => ?_) (fun t m ht ex hs em hm h8 => ?_) (fun t m ht ex hs em hm hb => ?_) (fun t m ht ex hs em hm hg => ?_)
  · unfold M_weathers
    rintro _ rfl
    exact m_noPaidN hx (brF (by decide) (simEnd (fin _ FpThr)))
  · subst ex
    unfold M_weathers
    rintro _ rfl
    exact m_noPaidM ht (by rw [sI_o (by decide)]; exact hs) (brF (by decide) (simEnd (fin _ FpThr)))
  · subst ex
    unfold M_weathers
    rintro _ rfl
    exact m_noPaid4 ht (by rw [sI_o (by decide)]; exact hs) (by rw [sI_o (by decide)]; exact em) hm h8 (brF (by decide) (simEnd (fin _ FpThr)))
  · subst ex
    unfold M_weathers
    rintro _ rfl
    exact m_noPaid (f := fun j => (gJ h 126 (40 * t + j)).toInt) O (h99 2) ht (by rw [sI_o (by decide)]; exact hs) hm (by rw [sI_o (by decide)]; exact em) (fun j _ => rfl) (fun _ => brF (by decide) (simEnd (fin _ FpThr))) (fun hg => by obtain ⟨j, j1, j2⟩ := hb; exact absurd (hg j j1) j2)
  · subst ex
    unfold M_weathers
    rintro _ rfl
    refine m_noPaid (f := fun j => (gJ h 126 (40 * t + j)).toInt) O (h99 2) ht (by rw [sI_o (by decide)]; exact hs) hm (by rw [sI_o (by decide)]; exact em) (fun j _ => rfl) (fun hb => by obtain ⟨j, j1, j2⟩ := hb; exact absurd (hg j j1) j2) (fun _ => brT rfl ?_)
    exact m_weathersOf (f := fun j => (gJ h 126 (40 * t + j)).toInt) O h99 ht hm.2 (by rw [sI_o (by decide)]; exact em) (fun j _ => rfl) hg (fun h2 f2 _ => simEnd (fin _ (FpThr.tr f2)))
/-! the road to ask for -/
def mxN (g : Nat → Nat) : Nat → Nat
  | 0 => 0
  | n + 1 => if mxN g n < g n then g n else mxN g n
theorem mxN_up {g : Nat → Nat} {n x : Nat} (e : g n = x) (h : mxN g n < x) : mxN g (n + 1) = x := by
  show (if mxN g n < g n then g n else mxN g n) = x
  rw [e, if_pos h]
theorem mxN_st {g : Nat → Nat} {n x : Nat} (e : g n = x) (h : x ≤ mxN g n) : mxN g (n + 1) = mxN g n := by
  show (if mxN g n < g n then g n else mxN g n) = _
  rw [e, if_neg (by omega)]
theorem mxN_ge {g : Nat → Nat} : ∀ {n i : Nat}, i < n → g i ≤ mxN g n
  | n + 1, i, h => by
    unfold mxN
    by_cases e : i = n
    · subst e; split <;> omega
    · have := mxN_ge (g := g) (n := n) (i := i) (by omega)
      split <;> omega
theorem mxN_le {g : Nat → Nat} {m : Nat} : ∀ {n : Nat}, (∀ i, i < n → g i ≤ m) → mxN g n ≤ m
  | 0, _ => Nat.zero_le _
  | n + 1, h => by
    unfold mxN
    have := mxN_le (g := g) (m := m) (n := n) (fun i hi => h i (by omega))
    have := h n (by omega)
    split <;> omega
def cW (a : Row) (set r : Nat) (x : Int32) : Nat := popc 16 (bset (payB a r x) 10 &&& set)
theorem popc_le : ∀ k n, popc k n ≤ k
  | 0, n => Nat.le_refl 0
  | k + 1, n => by
    show n % 2 + popc k (n / 2) ≤ k + 1
    have := popc_le k (n / 2)
    have := Nat.mod_lt n (show 0 < 2 by decide)
    omega
theorem popc_hi {k j n : Nat} (h : n < 2 ^ k) : popc (k + j) n = popc k n := by
  rw [popc_add, Nat.div_eq_of_lt h, popc0]; rfl
theorem popc_pos {k n i : Nat} (hi : i < k) (h : n.testBit i = true) : 0 < popc k n := by
  obtain ⟨j, rfl⟩ : ∃ j, k = i + (j + 1) := ⟨k - i - 1, by omega⟩
  rw [popc_add]
  show 0 < popc i n + (n / 2 ^ i % 2 + popc j (n / 2 ^ i / 2))
  rw [z_tb, decide_eq_true_iff] at h
  omega
theorem popc_ex {k n : Nat} (h : 0 < popc k n) : ∃ i, i < k ∧ n.testBit i = true := by
  induction k generalizing n with
  | zero => exact absurd h (by show ¬ 0 < 0; omega)
  | succ k ih =>
    by_cases q : n % 2 = 1
    · exact ⟨0, by omega, by rw [z_tb]; simp [q]⟩
    · have h : 0 < n % 2 + popc k (n / 2) := h
      obtain ⟨i, hi, ht⟩ := ih (n := n / 2) (by omega)
      exact ⟨i + 1, by omega, by rw [Nat.testBit_succ]; exact ht⟩
theorem cW_lt {a : Row} {set r : Nat} {x : Int32} : bset (payB a r x) 10 &&& set < 2 ^ 10 := Nat.lt_of_le_of_lt Nat.and_le_left (bset_lt _ _)
theorem cW_10 {a : Row} {set r : Nat} {x : Int32} : cW a set r x = popc 10 (bset (payB a r x) 10 &&& set) := popc_hi (k := 10) (j := 6) cW_lt
/-- how many at most: by all weathers, by those of the set alone -/
theorem alike_eq (a : Row) (set r : Nat) : mxN (fun w => cW a set r (payA a w r)) 10 = mxN (fun w => if set.testBit w then cW a set r (payA a w r) else 0) 10 := by
  apply Nat.le_antisymm
  · refine mxN_le (fun w hw => ?_)
    rcases Nat.eq_zero_or_pos (cW a set r (payA a w r)) with q | q
    · rw [q]; exact Nat.zero_le _
    · rw [cW_10] at q
      obtain ⟨i, hi, ht⟩ := popc_ex q
      rw [Nat.testBit_and, Bool.and_eq_true, bset_tb, Bool.and_eq_true] at ht
      have hp : payA a i r = payA a w r := by simpa [payB] using ht.1.2
      have := mxN_ge (g := fun w => if set.testBit w then cW a set r (payA a w r) else 0) (n := 10) (i := i) hi
      simp only [ht.2, if_true, hp] at this
      exact this
  · refine mxN_le (fun w hw => ?_)
    split
    · exact mxN_ge (g := fun w => cW a set r (payA a w r)) hw
    · exact Nat.zero_le _
theorem c_mostAlike {h : Hp} {Q : Int32 → Hp → Prop} {a : Row} {r set : Nat} (L : Lnd h a) (O : LandOK a) (hr : r < nR a) (k : Q (nI (mxN (fun w => cW a set r (payA a w r)) 10)) h) : Land_mostAlike (nI r) (nI set) h Q := by
  unfold Land_mostAlike
  refine pk_loop (σ := Int32) (fun n i s => Land_mostAlike_L5 (nI r) (nI set) Q n s (nI i) h) (fun i s => s = nI (mxN (fun w => cW a set r (payA a w r)) i)) 10 0 _ (by omega) rfl (fun n s hs => ?_) (fun n i s hi hs hk => ?_)
  · unfold Land_mostAlike_L5
    exact pk_le 10 10 (fun _ => by rw [hs]; exact k) (fun q => absurd q (by omega))
  · unfold Land_mostAlike_L5
    refine pk_le 10 i (fun q => absurd q (by omega)) (fun _ => c_payOf L O hi hr (c_wPay L O hr ?_))
    rw [z_and]
    refine j_bc (by have := cW_lt (a := a) (set := set) (r := r) (x := payA a i r); omega) ?_
    have b1 : mxN (fun w => cW a set r (payA a w r)) i ≤ 16 := mxN_le (fun w _ => popc_le _ _)
    have b2 : cW a set r (payA a i r) ≤ 16 := popc_le _ _
    unfold J9_max_7cf53
    rw [hs]
    refine pk_lt _ (cW a set r (payA a i r)) (fun q => ?_) (fun q => ?_) (ha := by omega) (hb := by omega)
    · rintro _ rfl
      rw [nI_1]
      exact hk _ (congrArg nI (mxN_up (g := fun w => cW a set r (payA a w r)) (n := i) (x := cW a set r (payA a i r)) rfl q)).symm
    · rintro _ rfl
      rw [nI_1]
      exact hk _ (congrArg nI (mxN_st (g := fun w => cW a set r (payA a w r)) (n := i) (x := cW a set r (payA a i r)) rfl q)).symm
theorem m_mostAlike {h0 : Hp} {Q : Int32 → Hp → Prop} {a : Row} {r set : Nat} (O : LandOK a) (h99 : ∀ j, gI h0 99 j = a j) (hr : r < nR a) (hset : set < 2 ^ 10) (k : ∀ h1, Fp scM h0 h1 → (∀ j, gI h1 99 j = a j) → Q (nI (mxN (fun w => if set.testBit w then cW a set r (payA a w r) else 0) 10)) h1) : M_mostAlike (nI set) (nI r) h0 Q := by
  unfold M_mostAlike
  refine pk_loop (σ := Hp) (fun n i h => M_mostAlike_L2 (nI set) (nI r) _ n (nI i) h) (fun i h => Fp scM h0 h ∧ (∀ j, gI h 99 j = a j) ∧ ∀ w, w < i → gI h 123 w = payA a w r) 10 0 h0 (by omega) ⟨Fp.rf _ h0, h99, fun w hw => absurd hw (by omega)⟩ (fun n h hs => ?_) (fun n i h hi hs hk => ?_)
  · obtain ⟨f1, g1, g2⟩ := hs
    unfold M_mostAlike_L2
    refine pk_le 10 10 (fun _ => ?_) (fun q => absurd q (by omega))
    refine pk_loop (σ := Int32) (fun n i s => M_mostAlike_L31 (nI set) Q n s (nI i) h) (fun i s => s = nI (mxN (fun w => if set.testBit w then cW a set r (payA a w r) else 0) i)) 10 0 _ (by omega) rfl (fun n s hs => ?_) (fun n i s hi hs hk => ?_)
    · unfold M_mostAlike_L31
      exact pk_le 10 10 (fun _ => by rw [hs]; exact k h f1 g1) (fun q => absurd q (by omega))
    · unfold M_mostAlike_L31
      refine pk_le 10 i (fun q => absurd q (by omega)) (fun _ => ?_)
      refine pk_loop (σ := Int32) (fun n' j s' => M_mostAlike_L44 (nI set) s (nI i) _ n' s' (nI j) h) (fun j s' => s' = nI (if set.testBit i then popc j (bset (payB a r (payA a i r)) 10 &&& set) else 0)) 10 0 _ (by omega) (by split <;> rfl) (fun n' s' hs' => ?_) (fun n' j s' hj hs' hk' => ?_)
      · unfold M_mostAlike_L44
        refine pk_le 10 10 (fun _ => ?_) (fun q => absurd q (by omega))
        rintro J rfl
        rw [← cW_10] at hs'
        have b1 : mxN (fun w => if set.testBit w then cW a set r (payA a w r) else 0) i ≤ 16 := mxN_le (fun w _ => by split; exact popc_le _ _; omega)
        have b2 : (if set.testBit i then cW a set r (payA a i r) else 0) ≤ 16 := by split; exact popc_le _ _; omega
        rw [hs', hs]
        refine pk_le _ (mxN (fun w => if set.testBit w then cW a set r (payA a w r) else 0) i) (fun q => ?_) (fun q => ?_) (ha := by omega) (hb := by omega)
        · rintro _ rfl
          rw [nI_1]
          exact hk _ (congrArg nI (mxN_st (g := fun w => if set.testBit w then cW a set r (payA a w r) else 0) (n := i) (x := if set.testBit i then cW a set r (payA a i r) else 0) rfl q)).symm
        · rintro _ rfl
          rw [nI_1]
          exact hk _ (congrArg nI (mxN_up (g := fun w => if set.testBit w then cW a set r (payA a w r) else 0) (n := i) (x := if set.testBit i then cW a set r (payA a i r) else 0) rfl q)).symm
      · unfold M_mostAlike_L44
        refine pk_le 10 j (fun q => absurd q (by omega)) (fun _ => s_isIn (by omega) (by omega) ?_)
        rintro J rfl J94 rfl
        have pj : popc (j + 1) (bset (payB a r (payA a i r)) 10 &&& set) = popc j (bset (payB a r (payA a i r)) 10 &&& set) + (if set.testBit j = true ∧ payA a j r = payA a i r then 1 else 0) := by
          rw [popc_add j 1]
          congr 1
          show (bset (payB a r (payA a i r)) 10 &&& set) / 2 ^ j % 2 + 0 = _
          have tb : (bset (payB a r (payA a i r)) 10 &&& set).testBit j = true ↔ set.testBit j = true ∧ payA a j r = payA a i r := by
            rw [Nat.testBit_and, Bool.and_eq_true, bset_tb]
            simp [hj, payB]
            exact And.comm
          rw [z_tb, decide_eq_true_iff] at tb
          by_cases c : set.testBit j = true ∧ payA a j r = payA a i r
          · rw [if_pos c, tb.mpr c]
          · rw [if_neg c]
            have := mt tb.mp c
            have := Nat.mod_lt ((bset (payB a r (payA a i r)) 10 &&& set) / 2 ^ j) (show 0 < 2 by decide)
            omega
        have inv' : ∀ b : Nat, (if set.testBit i then popc (j + 1) (bset (payB a r (payA a i r)) 10 &&& set) else 0) = (if set.testBit i then popc j (bset (payB a r (payA a i r)) 10 &&& set) else 0) + b → s' + nI b = nI (if set.testBit i then popc (j + 1) (bset (payB a r (payA a i r)) 10 &&& set) else 0) := by
          rintro b hb
          rw [hs', nI_add, hb]
        by_cases q : set.testBit i = true
        · rw [if_pos q]
          refine brF (by decide) (s_isIn (by omega) (by omega) ?_)
          by_cases q2 : set.testBit j = true
          · rw [if_pos q2]
            refine brF (by decide) ⟨pk_in i 10 hi, pk_in j 10 hj, ?_⟩
            rw [cl i, cl j, g2 i hi, g2 j hj]
            refine ⟨fun e => ?_, fun e => ?_⟩
            · rintro _ rfl _ rfl
              rw [nI_1 j]
              exact hk' _ (inv' 0 (by rw [if_pos q, if_pos q, pj, if_neg (fun c => e c.2.symm)]))
            · rintro _ rfl _ rfl
              rw [nI_1 j]
              exact hk' _ (inv' 1 (by rw [if_pos q, if_pos q, pj, if_pos ⟨q2, e.symm⟩]))
          · rw [if_neg q2]
            refine brT rfl ?_
            rintro _ rfl _ rfl
            rw [nI_1 j]
            exact hk' _ (inv' 0 (by rw [if_pos q, if_pos q, pj, if_neg (fun c => q2 c.1)]))
        · rw [if_neg q]
          refine brT rfl ?_
          rintro _ rfl _ rfl
          rw [nI_1 j]
          exact hk' _ (inv' 0 (by rw [if_neg q, if_neg q]))
  · obtain ⟨f1, g1, g2⟩ := hs
    unfold M_mostAlike_L2
    refine pk_le 10 i (fun q => absurd q (by omega)) (fun _ => ?_)
    refine s_payBy O hr g1 (fun h2 f2 => ⟨pk_in i 10 hi, ?_⟩)
    rw [cl i]
    rintro _ rfl _ rfl
    rw [nI_1]
    refine hk _ ⟨Fp.sI (f1.tr (f2.toW.fp scM_W)) rfl, fun j => by rw [sI_o (by decide)]; exact (f2.1 99 j rfl).trans (g1 j), fun w hw => ?_⟩
    by_cases e : w = i
    · subst e; rw [sI_s]
    · rw [sI_k e, f2.1 123 w rfl]; exact g2 w (by omega)
/-- the first road of the least -/
def askR (g : Nat → Nat) : Nat → Int32 × Nat
  | 0 => (-1, 11)
  | n + 1 => if g n < (askR g n).2 then (nI n, g n) else askR g n
theorem askR_le (g : Nat → Nat) : ∀ n, (askR g n).2 ≤ 11
  | 0 => Nat.le_refl _
  | n + 1 => by
    unfold askR
    have := askR_le g n
    split
    · show g n ≤ 11; omega
    · exact this
theorem askR_up {g : Nat → Nat} {n : Nat} (h : g n < (askR g n).2) : askR g (n + 1) = (nI n, g n) := if_pos h
theorem askR_st {g : Nat → Nat} {n : Nat} (h : ¬ g n < (askR g n).2) : askR g (n + 1) = askR g n := if_neg h
theorem sim_ask {B : Int} {x : Int32} : Sim B B (C_ask x) (M_ask x) := by
  intro h K I k
  obtain ⟨O, L⟩ := I.1
  have h16 := O.2.1.1
  have fin : ∀ (h2 : Hp), Fp scM h h2 → K h2 := fun h2 f2 => k h2 (Inv_k I (f2.mo scM_2))
  have h99 : ∀ j, gI (sI h 98 0 0) 99 j = rowM h j := fun j => by rw [sI_o (by decide)]; rfl
  unfold C_ask
  refine c_weathers I (fun hx => ?_) (fun t ht ex hs => ?_) (fun t m ht ex hs em hm h8 => ?_) (fun t m ht ex hs em hm hb => ?_) (fun t m ht ex hs em hm hg => ?_)
  · refine brF (by decide) (brF' (by decide) ?_)
    unfold M_ask
    rintro _ rfl
    exact m_noPaidN hx (brF (by decide) (simEnd (fin _ FpThr)))
  · subst ex
    refine brF (by decide) (brF' (by decide) ?_)
    unfold M_ask
    rintro _ rfl
    exact m_noPaidM ht (by rw [sI_o (by decide)]; exact hs) (brF (by decide) (simEnd (fin _ FpThr)))
  · subst ex
    refine brF (by decide) (brF' (by decide) ?_)
    unfold M_ask
    rintro _ rfl
    exact m_noPaid4 ht (by rw [sI_o (by decide)]; exact hs) (by rw [sI_o (by decide)]; exact em) hm h8 (brF (by decide) (simEnd (fin _ FpThr)))
  · subst ex
    refine brF (by decide) (brF' (by decide) ?_)
    unfold M_ask
    rintro _ rfl
    exact m_noPaid (f := fun j => (gJ h 126 (40 * t + j)).toInt) O (h99 2) ht (by rw [sI_o (by decide)]; exact hs) hm (by rw [sI_o (by decide)]; exact em) (fun j _ => rfl) (fun _ => brF (by decide) (simEnd (fin _ FpThr))) (fun hg => by obtain ⟨j, j1, j2⟩ := hb; exact absurd (hg j j1) j2)
  · subst ex
    have sl := bset_lt (okW (rowM h) (fun j => (gJ h 126 (40 * t + j)).toInt) m) 10
    have mside : ∀ (K2 : Int32 → Hp → Prop), (∀ h2, Fp scM h h2 → (∀ j, gI h2 99 j = rowM h j) → ∃ n, M_ask_L34 (nI (bset (okW (rowM h) (fun j => (gJ h 126 (40 * t + j)).toInt) m) 10)) K2 n (-1) 268435456 0 h2) → M_ask (nI t) h K2 := by
      intro K2 hK
      unfold M_ask
      rintro _ rfl
      refine m_noPaid (f := fun j => (gJ h 126 (40 * t + j)).toInt) O (h99 2) ht (by rw [sI_o (by decide)]; exact hs) hm (by rw [sI_o (by decide)]; exact em) (fun j _ => rfl) (fun hb => by obtain ⟨j, j1, j2⟩ := hb; exact absurd (hg j j1) j2) (fun _ => brT rfl ?_)
      exact m_weathersOf (f := fun j => (gJ h 126 (40 * t + j)).toInt) O h99 ht hm.2 (by rw [sI_o (by decide)]; exact em) (fun j _ => rfl) hg (fun h2 f2 g2 => hK h2 (FpThr.tr f2) g2)
    generalize bset (okW (rowM h) (fun j => (gJ h 126 (40 * t + j)).toInt) m) 10 = set at sl mside
    obtain ⟨g, hg'⟩ : ∃ g : Nat → Nat, ∀ r, mxN (fun w => cW (rowM h) set r (payA (rowM h) w r)) 10 = g r := ⟨_, fun _ => rfl⟩
    have gb : ∀ r, g r ≤ 10 := fun r => by rw [← hg' r]; exact mxN_le (fun w _ => by rw [cW_10]; exact popc_le _ _)
    have al := askR_le g
    refine pk_lt 0 set (fun q => ?_) (fun q => ?_) (hb := by omega)
    · refine pk_loop (σ := Int32 × Nat) (fun n i s => C_ask_L29 (nI set) _ n s.1 (nI s.2) (nI i) h) (fun i s => s = askR g i) (nR (rowM h)) 0 (-1, 11) (by omega) rfl (fun n s hs => ?_) (fun n i s hi hs hk => ?_)
      · unfold C_ask_L29
        rw [L.2.2.1, O.2.1.2]
        refine pk_le (nR (rowM h)) (nR (rowM h)) (fun _ => ?_) (fun q => absurd q (by omega))
        rw [hs]
        refine mside _ (fun h2 f2 g2 => ?_)
        refine pk_loop (σ := Int32 × Int32 × Hp) (fun n i s => M_ask_L34 (nI set) _ n s.1 s.2.1 (nI i) s.2.2) (fun i s => s.1 = (askR g i).1 ∧ s.2.1 = (if i = 0 then 268435456 else nI (askR g i).2) ∧ Fp scM h s.2.2 ∧ ∀ j, gI s.2.2 99 j = rowM h j) (nR (rowM h)) 0 (-1, 268435456, h2) (by omega) ⟨rfl, rfl, f2, g2⟩ (fun n s hs => ?_) (fun n i s hi hs hk => ?_)
        · obtain ⟨s1, s2, s3⟩ := s
          obtain ⟨c1, c2, c3, c4⟩ := hs
          have c1 : s1 = (askR g (nR (rowM h))).1 := c1
          have c4 : ∀ j, gI s3 99 j = rowM h j := c4
          have c3 : Fp scM h s3 := c3
          unfold M_ask_L34
          dsimp only
          rw [c4 2, O.2.1.2]
          refine pk_le (nR (rowM h)) (nR (rowM h)) (fun _ => ?_) (fun q => absurd q (by omega))
          rw [c1]
          exact simEnd (fin _ c3)
        · obtain ⟨s1, s2, s3⟩ := s
          obtain ⟨c1, c2, c3, c4⟩ := hs
          have c1 : s1 = (askR g i).1 := c1
          have c2 : s2 = (if i = 0 then 268435456 else nI (askR g i).2) := c2
          have c4 : ∀ j, gI s3 99 j = rowM h j := c4
          have c3 : Fp scM h s3 := c3
          unfold M_ask_L34
          dsimp only
          rw [c4 2, O.2.1.2]
          refine pk_le (nR (rowM h)) i (fun q => absurd q (by omega)) (fun _ => brF (nI_ne0 q (by omega)) ?_)
          refine m_mostAlike O c4 hi sl (fun h3 f3 g3 => ?_)
          rw [← alike_eq, hg' i]
          rintro J rfl
          have gi := gb i
          have ali := al i
          have cmp : nI (g i) < s2 ↔ g i < (askR g i).2 := by
            rw [c2]
            by_cases e : i = 0
            · subst e
              rw [if_pos rfl]
              have : nI (g 0) < nI 268435456 ↔ _ := nI_ltI (by omega) (by omega)
              refine this.trans ⟨fun _ => ?_, fun _ => by omega⟩
              show _ < 11
              omega
            · rw [if_neg e]
              exact nI_ltI (by omega) (by omega)
          rw [cmp]
          refine ⟨fun q1 => ?_, fun q1 => ?_⟩
          · rintro _ rfl
            rw [nI_1 i]
            refine hk (nI i, nI (g i), h3) ⟨?_, ?_, c3.tr f3, g3⟩
            · rw [askR_up q1]
            · rw [askR_up q1, if_neg (by omega)]
          · rintro _ rfl
            rw [nI_1 i]
            refine hk (s1, s2, h3) ⟨?_, ?_, c3.tr f3, g3⟩
            · rw [askR_st q1]; exact c1
            · rw [askR_st q1, if_neg (by omega)]
              by_cases e : i = 0
              · subst e
                exact absurd (show g 0 < 11 by omega) q1
              · rw [if_neg e] at c2; exact c2
      · obtain ⟨s1, s2⟩ := s
        have hs : (s1, s2) = askR g i := hs
        unfold C_ask_L29
        dsimp only
        rw [L.2.2.1, O.2.1.2]
        refine pk_le (nR (rowM h)) i (fun q => absurd q (by omega)) (fun _ => c_mostAlike L O hi ?_)
        rw [hg' i]
        rintro J rfl
        have gi := gb i
        have ali := al i
        have e2 : s2 = (askR g i).2 := by rw [← hs]
        refine pk_le s2 (g i) (fun q1 => ?_) (fun q1 => ?_) (ha := by omega) (hb := by omega)
        · rintro _ rfl
          rw [nI_1 i]
          exact hk (s1, s2) (by rw [askR_st (by omega)]; exact hs)
        · rintro _ rfl
          rw [nI_1 i]
          exact hk (nI i, g i) (by rw [askR_up (by omega)])
    · have q0 : set = 0 := by omega
      subst q0
      refine brT' rfl ?_
      refine mside _ (fun h2 f2 g2 => ⟨1, ?_⟩)
      unfold M_ask_L34
      exact ⟨fun _ => simEnd (fin _ f2), fun _ => brT rfl (simEnd (fin _ f2))⟩
