/-! undo -/
def oT : Nat → Nat → Bool := fun o _ => o == 20 || o == 21 || o == 24
theorem c_takeBack {h : Hp} {Q : Hp → Prop} {m nx : Nat} {D : Nat → Row} (C : PastC h (m + 1) nx D) (k : ∀ h1, Fp oT h h1 → PastC h1 m ((nx + 9) % 10) D → StdR h1 20 21 (D m) → Q h1) : Past_takeBack 20 h Q := by
  obtain ⟨c1, c2, c3, c4, c5⟩ := C
  have hl : (nx + 9) % 10 < 10 := Nat.mod_lt _ (by decide)
  obtain ⟨r1, r2⟩ := rf25 _ hl
  unfold Past_takeBack
  rw [c4, c3]
  have e : nI nx + 10 - 1 - (nI nx + 10 - 1) / 10 * 10 = nI ((nx + 9) % 10) := by
    have : nI nx + 10 - 1 = nI (nx + 9) := by
      show nI nx + nI 10 - nI 1 = _
      rw [nI_add, pk_sub (by omega)]; congr 1
    rw [this]
    exact pk_rem (by omega) (by decide) (by decide)
  intro v1 hv1
  rw [hv1, e]
  clear hv1 v1
  refine pk_le (m + 1) 0 (fun q => absurd q (by omega)) (fun _ => brF (nI_pos (by omega)) (pk_le 10 ((nx + 9) % 10) (fun q => absurd q (by omega)) (fun _ => ⟨pk_in _ 10 hl, ?_⟩)))
  rw [cl ((nx + 9) % 10), r1]
  have hs := c5 m (by omega)
  rw [show (nx + 10 - (m + 1) + m) % 10 = (nx + 9) % 10 by omega] at hs
  refine c_copy hs rfS.1 r2 (by omega) (by omega) (by omega) (by omega) (by omega) (fun h1 f1 R1 => ?_)
  rintro _ rfl _ rfl
  have fo : ∀ o j, o ≠ 20 → o ≠ 21 → gI h1 o j = gI h o j := fun o j a b => f1.1 o j (by simp [oP, a, b])
  have foj : ∀ o j, o ≠ 20 → o ≠ 21 → gJ h1 o j = gJ h o j := fun o j a b => f1.2 o j (by simp [oP, a, b])
  have e2 : gI (sI h1 24 1 (nI ((nx + 9) % 10))) 24 2 - 1 = nI m := by
    rw [sI_k (by decide), fo 24 2 (by omega) (by omega), c3, nI_pred]
  rw [e2]
  refine k _ ?_ ⟨by omega, hl, sI_s _ _ _ _, by rw [sI_k (by decide), sI_s], fun i hi => ?_⟩ ?_
  · refine Fp.sI (Fp.sI (f1.mo (fun o j q => ?_)) rfl) rfl
    simp only [oT, Bool.or_eq_false_iff] at q
    simp only [oP, Bool.or_eq_false_iff]
    exact q.1
  · have := c5 i (by omega)
    rw [show ((nx + 9) % 10 + 10 - m + i) % 10 = (nx + 10 - (m + 1) + i) % 10 by omega]
    have hm := Nat.mod_lt (nx + 10 - (m + 1) + i) (show 0 < 10 by decide)
    exact StdR_k this (fun x j hx => by rw [sI_o (by omega), sI_o (by omega)]; exact fo x j (by omega) (by omega)) (foj _ 1 (by omega) (by omega))
  · exact StdR_k R1 (fun x j hx => by rw [sI_o (by omega), sI_o (by omega)]) rfl
theorem oT_X (o k : Nat) (h : scX o k = false) : oT o k = false := by
  simp only [scX, Bool.or_eq_false_iff, Bool.and_eq_false_iff, decide_eq_false_iff_not] at h
  simp only [oT, Bool.or_eq_false_iff, beq_eq_false_iff_ne]
  refine ⟨⟨?_, ?_⟩, ?_⟩
  · simpa using h.1.2.1.1
  · simpa using h.1.2.1.2
  · omega
theorem sim_undo {B : Int} {x : Int32} : Sim B B (C_undo x) (M_undo x) := by
  intro h K I k
  obtain ⟨O, L⟩ := I.1
  obtain ⟨sO, sR⟩ : iStd B h := I.2.1
  obtain ⟨m, nx, pC, pM, pO⟩ := iPast_to I.2.2.1
  have m10 := pC.1
  by_cases hx : 1 ≤ x.toInt ∧ x.toInt ≤ m
  · obtain ⟨n, hn⟩ : ∃ n : Nat, x.toInt = n := ⟨x.toInt.toNat, by omega⟩
    have ex : x = nI n := by rw [nI_i x (by omega), hn]; rfl
    have nm : n ≤ m := by omega
    rw [ex]
    unfold C_undo
    rw [pC.2.2.1]
    refine pk_lt n 1 (fun q => absurd q (by omega)) (fun _ => pk_lt 10 n (fun q => absurd q (by omega)) (fun _ => pk_le n m (fun _ => ?_) (fun q => absurd q (by omega))))
    refine pk_loop (σ := Hp) (fun n' i h1 => C_undo_L27 (nI n) _ n' (nI i) h1) (fun i h1 => Fp oT h h1 ∧ (∃ nx', PastC h1 (m - i) nx' (segM h)) ∧ StdR h1 20 21 (if i = 0 then stdM h else segM h (m - i))) n 0 h (by omega) ⟨Fp.rf _ h, ⟨nx, pC⟩, by rw [if_pos rfl]; exact sR⟩ (fun n' h1 J => ?_) (fun n' i h1 hi J hk => ?_)
    · obtain ⟨f1, ⟨nx', C1⟩, R1⟩ := J
      rw [if_neg (by omega)] at R1
      unfold C_undo_L27
      refine pk_le n n (fun _ => ?_) (fun q => absurd q (by omega))
      rw [C1.2.2.1]
      unfold M_undo
      rintro _ rfl
      refine m_inY (by rw [i_l, nI_toInt (by omega)]; show (1 : Int) ≤ _; omega) (by rw [i_l, nI_toInt (by omega)]; show _ ≤ (10 : Int); omega) (brF (by decide) ?_)
      have e99 : ∀ j, gI (sI h1 98 0 0) 99 j = gI h 99 j := fun j => by rw [sI_o (by decide)]; exact f1.1 99 j rfl
      rw [e99 70, pM.1]
      refine pk_le n m (fun _ => ?_) (fun q => absurd q (by omega))
      rintro _ rfl
      rw [pk_sub nm]
      refine pk_loop (σ := Hp) (fun n' i h2 => M_undo_L44 _ n' (nI i) h2) (fun i h2 => Fp scX h h2 ∧ (∀ o j, o ≠ 99 → o ≠ 98 → gI h2 o j = gI h1 o j) ∧ (∀ o j, gJ h2 o j = gJ h1 o j) ∧ gI h2 99 70 = nI (m - n) ∧ (∀ j, 71 ≤ j → gI h2 99 j = gI h 99 j) ∧ ∀ j, j < i → gI h2 99 (58 + j) = segM h (m - n) j) 12 0 _ (by omega) ⟨Fp.sI (Fp.sI (f1.mo oT_X) rfl) rfl, fun o j a b => by rw [sI_o a, sI_o b], fun o j => rfl, sI_s _ _ _ _, fun j hj => by rw [sI_k (by omega)]; exact e99 j, fun j hj => absurd hj (by omega)⟩ (fun n2 h2 J2 => ?_) (fun n2 i h2 hi J2 hk => ?_)
      · obtain ⟨F2, g1, g2, g3, g4, g5⟩ := J2
        unfold M_undo_L44
        refine pk_le 12 12 (fun _ => ?_) (fun q => absurd q (by omega))
        rw [g3]
        refine simEnd (k h2 ?_)
        refine inv_deed I (Int.le_refl B) F2 (s := segM h (m - n)) (m := m - n) (nx := nx') (D := segM h) ?_ g5 (pO _ (by omega)) ?_ ⟨g3, fun i hi j hj => (g4 _ (by omega))⟩ (fun i hi => pO i (by omega))
        · exact StdR_k R1 (fun x j hx => g1 x j (by omega) (by omega)) (g2 20 1)
        · exact PastC_k C1 (fun o j h1 h2 => g1 o j (by omega) (by omega)) (fun o j _ _ => g2 o j)
      · obtain ⟨F2, g1, g2, g3, g4, g5⟩ := J2
        unfold M_undo_L44
        have e12 : (71 : Int32) + 12 * gI h2 99 70 + nI i = nI (71 + 12 * (m - n) + i) := by
          rw [g3]
          show nI 71 + nI 12 * nI (m - n) + nI i = _
          rw [pk_mul, nI_add, nI_add]
        have e58 : (58 : Int32) + nI i = nI (58 + i) := nI_add 58 i
        rw [e12, e58]
        refine pk_le 12 i (fun q => absurd q (by omega)) (fun _ => ⟨pk_in (71 + 12 * (m - n) + i) 3276 (by omega), pk_in (58 + i) 3276 (by omega), ?_⟩)
        rintro _ rfl _ rfl
        rw [nI_1, cl (58 + i), cl (71 + 12 * (m - n) + i)]
        refine hk _ ⟨Fp.sI F2 (by simp [scX]; omega), fun o j a b => by rw [sI_o a]; exact g1 o j a b, g2, by rw [sI_k (by omega)]; exact g3, fun j hj => by rw [sI_k (by omega)]; exact g4 j hj, fun j hj => ?_⟩
        by_cases e : j = i
        · subst e; rw [sI_s]; exact g4 _ (by omega)
        · rw [sI_k (by omega)]; exact g5 j (by omega)
    · obtain ⟨f1, ⟨nx', C1⟩, R1⟩ := J
      unfold C_undo_L27
      refine pk_le n i (fun q => absurd q (by omega)) (fun _ => ?_)
      rw [show m - i = (m - (i + 1)) + 1 by omega] at C1
      refine c_takeBack C1 (fun h2 f2 C2 R2 => ?_)
      rintro _ rfl
      rw [nI_1]
      exact hk h2 ⟨f1.tr f2, ⟨_, C2⟩, by rw [if_neg (by omega)]; exact R2⟩
  · refine sim_q I k (-3) (fun Q hQ => ?_) (fun h1 Q I1 eR f1 hQ => ?_)
    · have := hQ h (Fp.rf _ h)
      unfold C_undo
      rw [pC.2.2.1]
      refine ⟨fun _ => this, fun q => ⟨fun _ => this, fun q1 => ⟨fun q2 => ?_, fun _ => this⟩⟩⟩
      rw [i_lt] at q
      rw [i_le, nI_toInt (by omega)] at q2
      have l1 : (1 : Int32).toInt = 1 := by decide
      exact absurd ⟨by omega, by omega⟩ hx
    · unfold M_undo
      rintro _ rfl
      have e70 : gI (sI h1 98 0 0) 99 70 = nI m := by rw [sI_o (by decide)]; exact (f1.1 99 70 rfl).trans pM.1
      have := hQ _ FpThr
      refine m_in (fun q1 q2 => brF (by decide) ?_) (fun _ => brT rfl this)
      rw [e70]
      refine ⟨fun q => ?_, fun _ => this⟩
      rw [i_le, nI_toInt (by omega)] at q
      have l1 : (1 : Int64).toInt = 1 := rfl
      exact absurd ⟨by omega, by omega⟩ hx
