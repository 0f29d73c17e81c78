/-! sums, sumsAt -/
def gB (b : Nat) (c : Nat → Int → Nat) (s : Int) : Nat := smN (fun p => if b.testBit p = true then c p s else 0) 8
def in1 (n : Nat) : Nat := if n = 0 then 0 else 1
theorem win {g : Int → Nat} (lo : Int) (m : Nat) (h : -2000 ≤ lo ∧ lo + m ≤ 2000) (z : ∀ s, (s < lo ∨ lo + m ≤ s) → g s = 0) : smN (fun i => g (-2000 + (i : Int))) 4000 = smN (fun i => g (lo + (i : Int))) m := by
  obtain ⟨d, hd⟩ : ∃ d : Nat, (d : Int) = lo + 2000 := ⟨(lo + 2000).toNat, by omega⟩
  obtain ⟨r, hr⟩ : ∃ r : Nat, 4000 = d + (m + r) := ⟨4000 - d - m, by omega⟩
  rw [show smN (fun i => g (-2000 + (i : Int))) 4000 = smN (fun i => g (-2000 + (i : Int))) (d + (m + r)) by rw [← hr], smN_app, smN_z (f := fun i => g (-2000 + (i : Int))) (n := d) (fun i hi => z _ (by omega)), smN_app, smN_z (f := fun t => g (-2000 + ((d + (m + t) : Nat) : Int))) (n := r) (fun i hi => z _ (by omega))]
  rw [Nat.zero_add, Nat.add_zero]
  exact smN_ext (fun i hi => by rw [show -2000 + ((d + i : Nat) : Int) = lo + (i : Int) by omega])
theorem c_unlike {h : Hp} {Q : Int32 → Hp → Prop} {c : Nat → Int → Nat} {l : Int} {s b : Nat} (T : TabR h c l s) (hs : s ≤ 1189) (hb : b < 256) (cb : ∀ p s, c p s < 2 ^ 31) (k : Q (nI (smN (fun j => in1 (gB b c (l + (j : Int)))) s)) h) : Sums_unlikeSums (nI b) h Q := by
  obtain ⟨t1, t2, t3, t4⟩ := T
  unfold Sums_unlikeSums
  refine pk_loop (σ := Nat) (fun n i v => Sums_unlikeSums_L4 (nI b) Q n (nI v) (nI i) h) (fun i v => v = smN (fun j => in1 (gB b c (l + (j : Int)))) i) s 0 0 (by omega) rfl (fun n v J => ?_) (fun n i v hi J hk => ?_)
  · unfold Sums_unlikeSums_L4
    rw [t2]
    refine pk_le s s (fun _ => ?_) (fun c => absurd c (by omega))
    rw [J]; exact k
  · unfold Sums_unlikeSums_L4
    rw [t2]
    refine pk_le s i (fun c => absurd c (by omega)) (fun _ => ?_)
    obtain ⟨tm, htm⟩ : ∃ tm : Nat → Nat, ∀ p, (if b.testBit p = true then c p (l + (i : Int)) else 0) = tm p := ⟨_, fun _ => rfl⟩
    have hg : gB b c (l + (i : Int)) = smN tm 8 := by
      unfold gB
      rw [show (fun p => if b.testBit p = true then c p (l + (i : Int)) else 0) = tm from funext htm]
    refine pk_loop (σ := Nat) (fun n' q x => Sums_unlikeSums_L18 (nI b) (nI v) (nI i) _ n' (nI x) (nI q) h) (fun q x => x = in1 (smN tm q)) 8 0 0 (by omega) rfl (fun n' x J' => ?_) (fun n' q x hq J' hk' => ?_)
    · unfold Sums_unlikeSums_L18
      refine pk_le 8 8 (fun _ => ?_) (fun c => absurd c (by omega))
      rintro J71 rfl
      have nx : smN (fun j => in1 (gB b c (l + (j : Int)))) (i + 1) = v + x := by
        show smN (fun j => in1 (gB b c (l + (j : Int)))) i + in1 (gB b c (l + (i : Int))) = _
        rw [hg, ← J', J]
      by_cases e : smN tm 8 = 0
      · have x0 : x = 0 := by rw [J']; exact if_pos e
        subst x0
        refine brT rfl ?_
        rintro _ rfl
        rw [nI_1 i]
        exact hk v nx.symm
      · have x1 : x = 1 := by rw [J']; exact if_neg e
        subst x1
        refine brF (by decide) ?_
        rintro _ rfl _ rfl
        rw [nI_1 i, nI_1 v]
        exact hk (v + 1) nx.symm
    · unfold Sums_unlikeSums_L18
      refine pk_le 8 q (fun c => absurd c (by omega)) (fun _ => ?_)
      rintro J55 rfl J50 rfl
      have nx : smN tm (q + 1) = smN tm q + tm q := rfl
      by_cases e : smN tm q = 0
      · have x0 : x = 0 := by rw [J']; exact if_pos e
        subst x0
        refine brT' rfl ?_
        rintro J54 rfl
        rw [z_bit (by omega) (by omega)]
        refine ⟨fun d => ?_, fun d => ?_⟩
        · rintro _ rfl
          rw [nI_1 q]
          refine hk' 0 ?_
          rw [nx, e, ← htm, if_neg d]; rfl
        · have mi : (nI i).toInt = i := nI_toInt (by omega)
          refine c_rowsAt (v := nI (c q (l + (i : Int)))) t2 hs hq (fun j hj e => by
            have : j = i := by omega
            rw [this]; exact t3 i q hi hq) (fun z => absurd (by omega) z) ?_
          have e0 : nI (c q (l + (i : Int))) = 0 ↔ c q (l + (i : Int)) = 0 := nI_eq (a := c q (l + (i : Int))) (b := 0) (cb _ _) (by omega)
          rw [e0]
          refine ⟨fun z => ?_, fun z => ?_⟩
          · rintro _ rfl
            rw [nI_1 q]
            refine hk' 0 ?_
            rw [nx, e, ← htm, if_pos d, z]; rfl
          · rintro _ rfl
            rw [nI_1 q]
            refine hk' 1 ?_
            rw [nx, e, ← htm, if_pos d, Nat.zero_add]
            exact (if_neg z).symm
      · have x1 : x = 1 := by rw [J']; exact if_neg e
        subst x1
        refine brF' (by decide) ?_
        rintro _ rfl
        rw [nI_1 q]
        refine hk' 1 ?_
        exact (if_neg (by rw [nx]; omega)).symm
theorem m_sums {h : Hp} {Q : Int32 → Hp → Prop} {a : Row} {c : Nat → Int → Nat} (O : LandOK a) (e1 : gI h 99 1 = a 1) (e121 : ∀ k, k < 9512 → gI h 121 k = nI (mkC c k)) (cz : ∀ p s, nP a ≤ p → c p s = 0) (cb : ∀ s, smN (fun p => c p s) 8 < 2 ^ 31) (k : Q (nI (smN (fun u => in1 (smN (fun p => c p (-594 + (u : Int))) 8)) 1189)) h) : ∃ n11, M_sums_L29 Q n11 0 0 h := by
  refine pk_loop (σ := Nat) (fun n i v => M_sums_L29 Q n (nI v) (nI i) h) (fun i v => v = smN (fun u => in1 (smN (fun p => c p (-594 + (u : Int))) 8)) i) 1189 0 0 (by omega) rfl (fun n v J => ?_) (fun n i v hi J hk => ?_)
  · unfold M_sums_L29
    refine pk_le 1189 1189 (fun _ => ?_) (fun c => absurd c (by omega))
    rw [J]; exact k
  · unfold M_sums_L29
    refine pk_le 1189 i (fun c => absurd c (by omega)) (fun _ => m_rowsOf O e1 e121 cz hi ?_)
    rintro J50 rfl
    have nx : smN (fun u => in1 (smN (fun p => c p (-594 + (u : Int))) 8)) (i + 1) = v + in1 (smN (fun p => c p ((i : Int) - 594)) 8) := by
      show smN (fun u => in1 (smN (fun p => c p (-594 + (u : Int))) 8)) i + in1 (smN (fun p => c p (-594 + (i : Int))) 8) = _
      rw [J, show -594 + (i : Int) = (i : Int) - 594 by omega]
    have cb' := cb ((i : Int) - 594)
    refine pk_le (smN (fun p => c p ((i : Int) - 594)) 8) 0 (fun d => ?_) (fun d => ?_)
    · rintro _ rfl _ rfl
      rw [nI_1 i]
      rw [show in1 (smN (fun p => c p ((i : Int) - 594)) 8) = 0 from if_pos (by omega)] at nx
      rw [Int32.add_zero]
      exact hk v nx.symm
    · rintro _ rfl _ rfl
      rw [nI_1 i, nI_1 v]
      rw [show in1 (smN (fun p => c p ((i : Int) - 594)) 8) = 1 from if_neg (by omega)] at nx
      exact hk (v + 1) nx.symm
theorem m_sumsAt {h : Hp} {Q : Int32 → Hp → Prop} {c : Nat → Int → Nat} {p : Nat} (hp : p < 8) (e121 : ∀ k, k < 9512 → gI h 121 k = nI (mkC c k)) (cb : ∀ p s, c p s < 2 ^ 31) (k : Q (nI (smN (fun u => in1 (c p (-594 + (u : Int)))) 1189)) h) : ∃ n11, M_sumsAt_L42 (nI p) Q n11 0 0 h := by
  refine pk_loop (σ := Nat) (fun n i v => M_sumsAt_L42 (nI p) Q n (nI v) (nI i) h) (fun i v => v = smN (fun u => in1 (c p (-594 + (u : Int)))) i) 1189 0 0 (by omega) rfl (fun n v J => ?_) (fun n i v hi J hk => ?_)
  · unfold M_sumsAt_L42
    refine pk_le 1189 1189 (fun _ => ?_) (fun c => absurd c (by omega))
    rw [J]; exact k
  · unfold M_sumsAt_L42
    have eX : (1189 : Int32) * nI p + nI i = nI (1189 * p + i) := by rw [show (1189 : Int32) = nI 1189 from rfl, pk_mul, nI_add]
    have em : mkC c (1189 * p + i) = c p (-594 + (i : Int)) := by
      unfold mkC
      rw [show (1189 * p + i) / 1189 = p by omega, show (1189 * p + i) % 1189 = i by omega, show (i : Int) - 594 = -594 + (i : Int) by omega]
    refine pk_le 1189 i (fun c => absurd c (by omega)) (fun _ => ?_)
    rw [eX, cl (1189 * p + i), e121 _ (by omega), em]
    refine ⟨pk_in (1189 * p + i) 9512 (by omega), ?_⟩
    rintro J72 rfl
    have nx : smN (fun u => in1 (c p (-594 + (u : Int)))) (i + 1) = v + in1 (c p (-594 + (i : Int))) := by
      show smN (fun u => in1 (c p (-594 + (u : Int)))) i + in1 (c p (-594 + (i : Int))) = _
      rw [J]
    have cb' := cb p (-594 + (i : Int))
    refine pk_le (c p (-594 + (i : Int))) 0 (fun d => ?_) (fun d => ?_)
    · rintro _ rfl _ rfl
      rw [nI_1 i]
      rw [show in1 (c p (-594 + (i : Int))) = 0 from if_pos (by omega)] at nx
      rw [Int32.add_zero]
      exact hk v nx.symm
    · rintro _ rfl _ rfl
      rw [nI_1 i, nI_1 v]
      rw [show in1 (c p (-594 + (i : Int))) = 1 from if_neg (by omega)] at nx
      exact hk (v + 1) nx.symm
