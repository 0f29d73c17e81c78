/-! feed -/
def bB (x : Int32) (s : Nat) : Nat := x.toBitVec.toNat / 2 ^ s % 256
theorem bB_lt (x : Int32) (s : Nat) : bB x s < 256 := Nat.mod_lt _ (by decide)
theorem sgB_i {b : Nat} (h : b < 256) : (sgB b).toInt = if b < 128 then (b : Int) else (b : Int) - 256 := by
  unfold sgB
  split
  · rw [nI_toInt (by omega)]
  · have l : (256 : Int32).toInt = 256 := by decide
    rw [i_sub (by rw [nI_toInt (by omega), l]; omega), nI_toInt (by omega), l]
theorem sx8 (y : Int32) : y.toInt8.toInt32 = sgB (y.toBitVec.toNat % 256) := by
  apply Int32.toInt_inj.mp
  rw [sgB_i (Nat.mod_lt _ (by decide)), Int8.toInt_toInt32, Int32.toInt_toInt8]
  have e : y.toInt = (y.toBitVec.toNat : Int).bmod (2 ^ 32) := BitVec.toInt_eq_toNat_bmod _
  rw [e, Int.bmod_bmod_of_dvd (by decide)]
  generalize y.toBitVec.toNat = n
  unfold Int.bmod
  have h1 : ((n : Int) % ((2 ^ 8 : Nat) : Int)) = ((n % 256 : Nat) : Int) := by omega
  rw [h1]
  dsimp only
  split <;> split <;> omega
theorem byteC {x s : Int32} (k : Nat) (hs : ((s.toUInt32 &&& Int32.toUInt32 31).toBitVec % 32).toNat = k) : vp_nar .byte (((x.toUInt32 >>> (s.toUInt32 &&& Int32.toUInt32 31)).toInt32).toInt8.toInt32) = sgB (bB x k) := by
  rw [pk_vb, sx8, pk_ushr x s k hs]
  rfl
theorem byteM {x s : Int32} (k : Nat) (hk : k ≤ 24) (hs : (s.toBitVec.smod 32).toNat = k) : (x >>> s) &&& 255 = nI (bB x k) := by
  rw [pk_and (x >>> s) 8 (by decide)]
  congr 1
  unfold bB
  have e : (x >>> s).toBitVec = x.toBitVec.sshiftRight k := by
    show x.toBitVec.sshiftRight (s.toBitVec.smod 32).toNat = _
    rw [hs]
  rw [e]
  apply Nat.eq_of_testBit_eq
  intro i
  rw [show (256 : Nat) = 2 ^ 8 from rfl, Nat.testBit_mod_two_pow, Nat.testBit_mod_two_pow, Nat.testBit_div_two_pow]
  by_cases q : i < 8
  · simp only [q, decide_true, Bool.true_and]
    show (x.toBitVec.sshiftRight k).getLsbD i = x.toBitVec.getLsbD (i + k)
    rw [BitVec.getLsbD_sshiftRight, if_pos (by omega), Nat.add_comm]
    simp [show ¬ 32 ≤ i by omega]
  · simp [q]
def oF (m n : Nat) : Nat → Nat → Bool := fun o j => (o == 0 && j == 1) || (o == 1 && (decide (m ≤ j) && decide (j < n)))
theorem c_pb {h : Hp} {Q : Hp → Prop} {x s : Int32} {n m k : Nat} (hs : ((s.toUInt32 &&& Int32.toUInt32 31).toBitVec % 32).toNat = k) (h0 : ¬ s < 0) (em : gI h 0 1 = nI m) (hm : m < 900) (kk : C_putBytes_L3 x Q n (s + -8) (sI (sI h 1 m (sgB (bB x k))) 0 1 (nI (m + 1)))) : C_putBytes_L3 x Q (n + 1) s h := by
  unfold C_putBytes_L3
  refine brF h0 ?_
  rintro J rfl
  rw [em]
  refine pk_le 900 m (fun q => absurd q (by omega)) (fun _ => ⟨pk_in m 900 hm, ?_⟩)
  rw [cl m, byteC k hs]
  rintro _ rfl
  rw [sI_o (by decide), em, nI_1]
  rintro _ rfl _ rfl
  exact kk
theorem c_putBytes {h : Hp} {Q : Hp → Prop} {x : Int32} {m : Nat} (em : gI h 0 1 = nI m) (hm : m + 4 ≤ 900) (kk : ∀ h1, Fp (oF m (m + 4)) h h1 → gI h1 0 1 = nI (m + 4) → (∀ j, j < 4 → gI h1 1 (m + j) = sgB (bB x (24 - 8 * j))) → Q h1) : C_putBytes x h Q := by
  refine ⟨5, c_pb (k := 24) (m := m) (by decide) (by decide) em (by omega) ?_⟩
  refine c_pb (k := 16) (m := m + 1) (by decide) (by decide) (sI_s _ _ _ _) (by omega) ?_
  refine c_pb (k := 8) (m := m + 2) (by decide) (by decide) (sI_s _ _ _ _) (by omega) ?_
  refine c_pb (k := 0) (m := m + 3) (by decide) (by decide) (sI_s _ _ _ _) (by omega) ?_
  unfold C_putBytes_L3
  refine brT (by decide) (kk _ ?_ (sI_s _ _ _ _) (fun j hj => ?_))
  · have a : oF m (m + 4) 0 1 = true := by simp [oF]
    have b : ∀ j, m ≤ j → j < m + 4 → oF m (m + 4) 1 j = true := fun j h1 h2 => by simp [oF, h1, h2]
    exact Fp.sI (Fp.sI (Fp.sI (Fp.sI (Fp.sI (Fp.sI (Fp.sI (Fp.sI (Fp.rf _ h) (b _ (by omega) (by omega))) a) (b _ (by omega) (by omega))) a) (b _ (by omega) (by omega))) a) (b _ (by omega) (by omega))) a
  · simp only [gI_sI]
    have : j = 0 ∨ j = 1 ∨ j = 2 ∨ j = 3 := by omega
    rcases this with rfl | rfl | rfl | rfl <;> simp
def fv (x1 x2 x3 x4 x5 : Int32) (k : Nat) : Int32 := if k < 4 then x1 else if k < 8 then x2 else if k < 12 then x3 else if k < 16 then x4 else x5
theorem sgN : ∀ k, k < 20 → ((24 : Int32) - 8 * (nI k - nI k / 4 * 4)) &&& 31 = nI (24 - 8 * (k % 4)) ∧ (((((24 : Int32) - 8 * (nI k - nI k / 4 * 4)) &&& 31)).toBitVec.smod 32).toNat = 24 - 8 * (k % 4) := by decide +kernel
theorem sim_feed {B : Int} {x1 x2 x3 x4 x5 : Int32} : Sim B B (C_feed x1 x2 x3 x4 x5) (M_feed x1 x2 x3 x4 x5) := by
  intro h K I k
  obtain ⟨m, t1, t2, t3, t4⟩ : iTape h := I.2.2.2.2.2.1
  by_cases hm : m + 20 ≤ 900
  · unfold C_feed
    have e20 : gI h 0 1 + 20 = nI (m + 20) := by rw [t2]; exact nI_add m 20
    rw [e20]
    refine pk_le (m + 20) 900 (fun _ => ?_) (fun q => absurd q (by omega))
    refine c_putBytes t2 (by omega) (fun h1 f1 m1 v1 => ?_)
    refine c_putBytes m1 (by omega) (fun h2 f2 m2 v2 => ?_)
    refine c_putBytes m2 (by omega) (fun h3 f3 m3 v3 => ?_)
    refine c_putBytes m3 (by omega) (fun h4 f4 m4 v4 => ?_)
    refine c_putBytes m4 (by omega) (fun h5 f5 m5 v5 => ?_)
    have F5 : Fp (oF m (m + 20)) h h5 := by
      have mo : ∀ {p q : Nat} {a b : Hp}, m ≤ p → q ≤ m + 20 → Fp (oF p q) a b → Fp (oF m (m + 20)) a b := fun hp hq f => f.mo (fun o j q => by
        simp only [oF, Bool.or_eq_false_iff, Bool.and_eq_false_iff, decide_eq_false_iff_not] at q ⊢
        refine ⟨q.1, ?_⟩
        rcases q.2 with q | q
        · exact Or.inl q
        · right; omega)
      exact ((((mo (by omega) (by omega) f1).tr (mo (by omega) (by omega) f2)).tr (mo (by omega) (by omega) f3)).tr (mo (by omega) (by omega) f4)).tr (mo (by omega) (by omega) f5)
    have out : ∀ {p q j : Nat} {a b : Hp}, Fp (oF p q) a b → j < p → gI b 1 j = gI a 1 j := fun f hj => f.1 1 _ (by simp [oF]; omega)
    have vals : ∀ j, j < 20 → gI h5 1 (m + j) = sgB (bB (fv x1 x2 x3 x4 x5 j) (24 - 8 * (j % 4))) := by
      intro j hj
      unfold fv
      by_cases q1 : j < 4
      · rw [if_pos q1, out f5 (by omega), out f4 (by omega), out f3 (by omega), out f2 (by omega), v1 j q1, show j % 4 = j by omega]
      · rw [if_neg q1]
        by_cases q2 : j < 8
        · rw [if_pos q2, out f5 (by omega), out f4 (by omega), out f3 (by omega), show m + j = m + 4 + (j - 4) by omega, v2 (j - 4) (by omega), show j % 4 = j - 4 by omega]
        · rw [if_neg q2]
          by_cases q3 : j < 12
          · rw [if_pos q3, out f5 (by omega), out f4 (by omega), show m + j = m + 4 + 4 + (j - 8) by omega, v3 (j - 8) (by omega), show j % 4 = j - 8 by omega]
          · rw [if_neg q3]
            by_cases q4 : j < 16
            · rw [if_pos q4, out f5 (by omega), show m + j = m + 4 + 4 + 4 + (j - 12) by omega, v4 (j - 12) (by omega), show j % 4 = j - 12 by omega]
            · rw [if_neg q4, show m + j = m + 4 + 4 + 4 + 4 + (j - 16) by omega, v5 (j - 16) (by omega), show j % 4 = j - 16 by omega]
    rw [m5]
    unfold M_feed
    rintro _ rfl
    have e98 : gI (sI h5 98 0 0) 98 5 = nI m := by rw [sI_k (by decide), F5.1 98 5 (by simp [oF])]; exact t3
    rw [e98, show nI m + 20 = nI (m + 20) from nI_add m 20]
    refine pk_le (m + 20) 900 (fun _ => ?_) (fun q => absurd q (by omega))
    refine pk_loop (σ := Hp) (fun n j h6 => M_feed_L24 x1 x2 x3 x4 x5 _ n (nI j) h6) (fun j h6 => Fp (fun o l => (o == 98 && l == 5) || o == 101) (sI h5 98 0 0) h6 ∧ gI h6 98 5 = nI (m + j) ∧ (∀ l, l < m → gI h6 101 l = gI h 101 l) ∧ ∀ l, l < j → gI h6 101 (m + l) = nI (bB (fv x1 x2 x3 x4 x5 l) (24 - 8 * (l % 4)))) 20 0 _ (by omega) ⟨Fp.rf _ _, e98, fun l _ => by rw [sI_o (by decide)]; exact F5.1 101 l (by simp [oF]), fun l hl => absurd hl (by omega)⟩ (fun n h6 J => ?_) (fun n j h6 hj J hk => ?_)
    · obtain ⟨f6, q1, q2, q3⟩ := J
      unfold M_feed_L24
      refine pk_le 20 20 (fun _ => ?_) (fun q => absurd q (by omega))
      rw [q1]
      refine simEnd (k h6 ?_)
      have w : ∀ o l, ¬ (o = 0 ∧ l = 1) → o ≠ 1 → ¬ (o = 98 ∧ l = 0) → ¬ (o = 98 ∧ l = 5) → o ≠ 101 → gI h6 o l = gI h o l := fun o l a b c d e => by
        rw [f6.1 o l (by simp [e]; intro q; omega), gI_sI, if_neg c, F5.1 o l (by simp [oF, b]; intro q; omega)]
      have wj : ∀ o l, o ≠ 1 → ¬ (o = 0 ∧ l = 1) → ¬ (o = 98 ∧ l = 5) → o ≠ 101 → gJ h6 o l = gJ h o l := fun o l b a d e => by
        rw [f6.2 o l (by simp [e]; intro q; omega)]
        show gJ h5 o l = _
        rw [F5.2 o l (by simp [oF, b]; intro q; omega)]
      obtain ⟨i1, i2, i3, i4, i5, i6, i7, i8, i9⟩ := I
      have e99 : ∀ l, gI h6 99 l = gI h 99 l := fun l => w 99 l (by omega) (by omega) (by omega) (by omega) (by omega)
      have eR : rowM h6 = rowM h := funext e99
      have eS : stdM h6 = stdM h := funext (fun l => e99 _)
      have E : LSame (rowM h) (rowM h6) := fun l _ _ => e99 l
      refine ⟨kLand i1 E (fun o l a b => w o l (by omega) (by omega) (by omega) (by omega) (by omega)), ⟨by rw [eR, eS]; exact i2.1, by rw [eS]; exact StdR_k i2.2 (fun y l hy => w y l (by omega) (by omega) (by omega) (by omega) (by omega)) (wj 20 1 (by omega) (by omega) (by omega) (by omega))⟩, kPast i3 i1.1 E (fun l _ _ => e99 l) (fun o l a b => w o l (by omega) (by omega) (by omega) (by omega) (by omega)) (fun o l a b => wj o l (by omega) (by omega) (by omega) (by omega)), kImg i4 (fun l _ => e99 l) (w 0 15 (by omega) (by omega) (by omega) (by omega) (by omega)) (fun i => w 100 i (by omega) (by omega) (by omega) (by omega) (by omega)) (fun o l a b => w o l (by omega) (by omega) (by omega) (by omega) (by omega)) (fun o l a b => wj o l (by omega) (by omega) (by omega) (by omega)), kTray i5 (fun t => w 124 t (by omega) (by omega) (by omega) (by omega) (by omega)) (fun t => w 125 t (by omega) (by omega) (by omega) (by omega) (by omega)) (fun t => wj 126 t (by omega) (by omega) (by omega) (by omega)) (fun o l a b => w o l (by omega) (by omega) (by omega) (by omega) (by omega)) (fun o l a b => wj o l (by omega) (by omega) (by omega) (by omega)), ⟨m + 20, hm, ?_, q1, fun l hl => ?_⟩, kFlt i7 (w 2 13 (by omega) (by omega) (by omega) (by omega) (by omega)) (w 2 14 (by omega) (by omega) (by omega) (by omega) (by omega)) (w 98 13 (by omega) (by omega) (by omega) (by omega) (by omega)) (w 98 14 (by omega) (by omega) (by omega) (by omega) (by omega)), kGame i8 i1.1 E (fun o l a b => w o l (by omega) (by omega) (by omega) (by omega) (by omega)), (w 90 0 (by omega) (by omega) (by omega) (by omega) (by omega)).trans i9⟩
      · rw [f6.1 0 1 rfl, sI_o (by decide), m5]
      · have c1 : gI h6 1 l = gI h5 1 l := by rw [f6.1 1 l rfl, sI_o (by decide)]
        rw [c1]
        by_cases q : l < m
        · rw [q2 l q, F5.1 1 l (by simp [oF]; omega)]; exact t4 l q
        · have := q3 (l - m) (by omega)
          have v := vals (l - m) (by omega)
          rw [show m + (l - m) = l by omega] at this v
          exact ⟨_, bB_lt _ _, this, v⟩
    · obtain ⟨f6, q1, q2, q3⟩ := J
      generalize (fun (r2 : Int32) (h2 : Hp) => (nI (m + 4 + 4 + 4 + 4 + 4) = r2 → K h2) ∧ (¬ nI (m + 4 + 4 + 4 + 4 + 4) = r2 → False)) = QQ at hk ⊢
      unfold M_feed_L24
      refine pk_le 20 j (fun q => absurd q (by omega)) (fun _ => ?_)
      rintro J rfl
      have go : ∀ v : Int32, v = fv x1 x2 x3 x4 x5 j → vp_in (gI h6 98 5) 900 ∧ ∀ h4 : Hp, h4 = sI h6 101 ((gI h6 98 5)).toNatClampNeg ((v >>> (((24 : Int32) - ((8 : Int32) * (nI j - nI j / 4 * 4))) &&& 31)) &&& 255) → ∀ h5 : Hp, h5 = sI h4 98 5 ((gI h4 98 5) + 1) → ∀ v6 : Int32, v6 = (nI j + 1) → M_feed_L24 x1 x2 x3 x4 x5 QQ n v6 h5 := by
        rintro v rfl
        rw [q1]
        refine ⟨pk_in (m + j) 900 (by omega), ?_⟩
        rw [cl (m + j), byteM (24 - 8 * (j % 4)) (by omega) (sgN j (by omega)).2]
        rintro _ rfl
        rw [sI_o (by decide), q1, nI_1]
        rintro _ rfl _ rfl
        rw [nI_1]
        refine hk _ ⟨Fp.sI (Fp.sI f6 rfl) rfl, sI_s _ _ _ _, fun l hl => ?_, fun l hl => ?_⟩
        · rw [sI_o (by decide), sI_k (by omega)]; exact q2 l hl
        · rw [sI_o (by decide)]
          by_cases e : l = j
          · subst e; rw [sI_s]
          · rw [sI_k (by omega)]; exact q3 l (by omega)
      refine pk_le 4 j (fun a1 => pk_le 8 j (fun a2 => pk_le 12 j (fun a3 => pk_le 16 j (fun a4 => go _ ?_) (fun a4 => go _ ?_)) (fun a3 => go _ ?_)) (fun a2 => go _ ?_)) (fun a1 => go _ ?_)
      · unfold fv; rw [if_neg (by omega), if_neg (by omega), if_neg (by omega), if_neg (by omega)]
      · unfold fv; rw [if_neg (by omega), if_neg (by omega), if_neg (by omega), if_pos a4]
      · unfold fv; rw [if_neg (by omega), if_neg (by omega), if_pos a3]
      · unfold fv; rw [if_neg (by omega), if_pos a2]
      · unfold fv; rw [if_pos a1]
  · refine sim_q I k (-5) (fun Q hQ => ?_) (fun h1 Q I1 eR f1 hQ => ?_)
    · unfold C_feed
      have e20 : gI h 0 1 + 20 = nI (m + 20) := by rw [t2]; exact nI_add m 20
      rw [e20]
      exact pk_le (m + 20) 900 (fun q => absurd q (by omega)) (fun _ => hQ h (Fp.rf _ h))
    · unfold M_feed
      rintro _ rfl
      have e98 : gI (sI h1 98 0 0) 98 5 = nI m := by rw [sI_k (by decide), f1.1 98 5 rfl]; exact t3
      rw [e98, show nI m + 20 = nI (m + 20) from nI_add m 20]
      exact pk_le (m + 20) 900 (fun q => absurd q (by omega)) (fun _ => hQ _ FpThr)
