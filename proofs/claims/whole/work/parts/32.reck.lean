/-! the reference reckons a law -/
def stk (h : Hp) : Nat → List Int32
  | 0 => []
  | n + 1 => gI h 103 n :: stk h n
theorem stk_w {h : Hp} {m : Nat} {v : Int32} : ∀ {n : Nat}, n ≤ m → stk (sI h 103 m v) n = stk h n
  | 0, _ => rfl
  | n + 1, hn => by
    show gI (sI h 103 m v) 103 n :: stk (sI h 103 m v) n = _
    rw [sI_k (by omega), stk_w (by omega)]
    rfl
theorem stk_push {h : Hp} {n : Nat} {v : Int32} : stk (sI h 103 n v) (n + 1) = v :: stk h n := by
  show gI (sI h 103 n v) 103 n :: stk (sI h 103 n v) n = _
  rw [sI_s, stk_w (Nat.le_refl n)]
def o1 (x : Nat) : Nat → Bool := fun o => o == x
theorem o1_t (x : Nat) : o1 x x = true := by simp [o1]
theorem i_sub1 (n : Nat) : nI (n + 1) - 1 = nI n := nI_pred n
theorem i_m1 (n : Nat) : nI (n + 1) + -1 = nI n := pk_m1 n
theorem i_m2 (n : Nat) : nI (n + 2) + -2 = nI n := by
  have e : nI (n + 2) = nI n + nI 2 := (nI_add n 2).symm
  rw [e, Int32.add_assoc]
  show nI n + (nI 2 + -2) = nI n
  rw [show nI 2 + (-2 : Int32) = 0 by decide, Int32.add_zero]
theorem reck_loop {a : Row} {law b m : Nat} {W : Nat → Int32} {v : Int32} {Q : Int32 → Hp → Prop} (hlaw : law < 2) (hb : a (6 + law) = nI b) (hm : a (8 + law) = nI m) (hbm : b + m ≤ 900) (hm0 : 0 < m) (hc : ∀ c ∈ codesA a law, 1000 ≤ c → ¬ 3000 ≤ c → c ≤ 1004) :
    ∀ (rem k n : Nat) (h : Hp), k + rem = m → n ≤ k → (∀ j, gI h 99 j = a j) → (∀ j, j < 5 → gI h 104 j = W j) → rkRun W ((codesA a law).drop k) (stk h n) = some [v] → (∀ h1, Fr (o1 103) h h1 → Q v h1) → M_reckons_L4 (nI law) Q (rem + 1) (nI n) (nI k) h := by
  have e8 : (8 : Int32) + nI law = nI (8 + law) := nI_add 8 law
  have e6 : (6 : Int32) + nI law = nI (6 + law) := nI_add 6 law
  have hlen : (codesA a law).length = m := by
    unfold codesA
    rw [List.length_map, List.length_range, hm, nI_toInt (by omega)]
    omega
  have hget : ∀ k (hk : k < (codesA a law).length), (codesA a law)[k] = a (192 + b + k) := by
    intro k hk
    have h1 : (codesA a law)[k]? = some (a (192 + b + k)) := by
      unfold codesA
      rw [List.getElem?_map, List.getElem?_range (by rw [hm, nI_toInt (by omega)]; omega), hb, nI_toInt (by omega)]
      rfl
    exact (List.getElem?_eq_some_iff.mp h1).2
  intro rem
  induction rem with
  | zero =>
    intro k n h hk hn h99 h104 hrun hQ
    unfold M_reckons_L4
    rw [e8]
    refine ⟨pk_in (8 + law) 3276 (by omega), ?_⟩
    rw [pk_cl (8 + law), h99, hm]
    refine pk_le m k (fun _ => ?_) (fun hc => absurd hc (by omega))
    rw [List.drop_of_length_le (by omega)] at hrun
    have e1 : stk h n = [v] := Option.some.inj hrun
    have e2 : n = 1 := by
      match n, e1 with
      | 1, _ => rfl
    subst e2
    have e3 : gI h 103 0 = v := (List.cons.inj e1).1
    rw [e3]
    exact hQ h (Fr.rf _ _)
  | succ rem ih =>
    intro k n h hk hn h99 h104 hrun hQ
    unfold M_reckons_L4
    rw [e8, e6]
    refine ⟨pk_in (8 + law) 3276 (by omega), ?_⟩
    rw [pk_cl (8 + law), h99, hm]
    refine pk_le m k (fun hc => absurd hc (by omega)) (fun _ => ?_)
    rw [pk_cl (6 + law), h99, hb]
    have e9 : (192 : Int32) + nI b + nI k = nI (192 + b + k) := by rw [show (192 : Int32) = nI 192 from rfl, nI_add, nI_add]
    rw [e9]
    refine ⟨pk_in (6 + law) 3276 (by omega), pk_in (192 + b + k) 3276 (by omega), ?_⟩
    rw [pk_cl (192 + b + k), h99]
    rintro c rfl J rfl
    have hkl : k < (codesA a law).length := by omega
    rw [List.drop_eq_getElem_cons hkl, hget k hkl] at hrun
    have hcin : a (192 + b + k) ∈ codesA a law := by rw [← hget k hkl]; exact List.getElem_mem hkl
    have hck := hc _ hcin
    generalize hcv : a (192 + b + k) = c at hrun hck ⊢
    have hrun : (rkStep W c (stk h n)).bind (rkRun W ((codesA a law).drop (k + 1))) = some [v] := hrun
    have go : ∀ (n1 : Nat) (h1 : Hp), n1 ≤ k + 1 → Fr (o1 103) h h1 → rkRun W ((codesA a law).drop (k + 1)) (stk h1 n1) = some [v] → M_reckons_L4 (nI law) Q (rem + 1) (nI n1) (nI k + 1) h1 := by
      intro n1 h1 hn1 hf hr
      rw [← nI_succ]
      exact ih (k + 1) n1 h1 (by omega) hn1 (fun j => (hf.1 99 j rfl).trans (h99 j)) (fun j hj => (hf.1 104 j rfl).trans (h104 j hj)) hr (fun h2 hf2 => hQ h2 (hf.tr hf2))
    have fr1 : ∀ j x, Fr (o1 103) h (sI h 103 j x) := fun j x => (Fr.rf _ h).sI (o1_t 103)
    refine ⟨fun h3 => ⟨fun n6 => ⟨fun n9 => ?_, fun e => ?_⟩, fun e => ?_⟩, fun h3 => ?_⟩
    · unfold rkStep at hrun
      rw [if_neg (fun q => q h3), if_neg n6, if_neg n9] at hrun
      match n, hn, hrun with
      | n + 2, hn, hrun =>
        rintro _ rfl
        rw [i_m1 (n + 1), i_sub1 n]
        refine ⟨pk_in n 900 (by omega), pk_in (n + 1) 900 (by omega), ?_⟩
        rw [pk_cl n, pk_cl (n + 1)]
        refine s_between ⟨pk_in n 900 (by omega), ?_⟩
        rintro _ rfl _ rfl
        refine go (n + 1) _ (by omega) (fr1 _ _) ?_
        rw [stk_push]
        exact hrun
    · subst e
      unfold rkStep at hrun
      rw [if_neg (fun q => q h3), if_neg n6, if_pos rfl] at hrun
      match n, hn, hrun with
      | n + 3, hn, hrun =>
        rintro _ rfl
        rw [show n + 3 = (n + 1) + 2 from rfl, i_m2 (n + 1), i_sub1 n]
        refine ⟨pk_in n 900 (by omega), ?_⟩
        rintro J rfl
        have fin : ∀ x : Int32, x = (if gI h 103 n = 1 then gI h 103 (n + 1) else gI h 103 (n + 2)) → (vp_in (nI n) 900 ∧ ∀ h12 : Hp, h12 = sI h 103 (nI n).toNatClampNeg x → ∀ v4 : Int32, v4 = nI k + 1 → M_reckons_L4 (nI law) Q (rem + 1) (nI (n + 1)) v4 h12) := by
          intro x hx
          refine ⟨pk_in n 900 (by omega), ?_⟩
          rw [pk_cl n]
          rintro _ rfl _ rfl
          refine go (n + 1) _ (by omega) (fr1 _ _) ?_
          rw [stk_push, hx]
          exact hrun
        rw [pk_cl n, nI_1 (n + 1), pk_cl (n + 2), pk_cl (n + 1)]
        refine ⟨fun hx => ⟨pk_in (n + 2) 900 (by omega), ?_⟩, fun hx => ⟨pk_in (n + 1) 900 (by omega), ?_⟩⟩
        · have := fin (gI h 103 (n + 2)) (by rw [if_neg hx])
          rw [pk_cl n] at this
          exact this
        · have := fin (gI h 103 (n + 1)) (by rw [if_pos hx])
          rw [pk_cl n] at this
          exact this
    · subst e
      unfold rkStep at hrun
      rw [if_neg (fun q => q h3), if_pos rfl] at hrun
      match n, hn, hrun with
      | n + 1, hn, hrun =>
        rw [i_sub1 n]
        refine ⟨pk_in n 900 (by omega), pk_in n 900 (by omega), ?_⟩
        rw [pk_cl n]
        rintro _ rfl _ rfl
        refine go (n + 1) _ (by omega) (fr1 _ _) ?_
        rw [stk_push]
        exact hrun
    · unfold rkStep at hrun
      rw [if_pos h3] at hrun
      rintro J rfl
      have fin : ∀ x : Int32, x = (if 1000 ≤ c then W (c - 1000).toNatClampNeg else c) → (vp_in (nI n) 900 ∧ ∀ h16 : Hp, h16 = sI h 103 (nI n).toNatClampNeg x → ∀ v17 : Int32, v17 = nI n + 1 → ∀ v4 : Int32, v4 = nI k + 1 → M_reckons_L4 (nI law) Q (rem + 1) v17 v4 h16) := by
        intro x hx
        refine ⟨pk_in n 900 (by omega), ?_⟩
        rw [pk_cl n]
        rintro _ rfl _ rfl _ rfl
        rw [nI_1 n]
        refine go (n + 1) _ (by omega) (fr1 _ _) ?_
        rw [stk_push, hx]
        exact hrun
      refine ⟨fun h1 => ?_, fun h1 => fin c (by rw [if_neg h1])⟩
      have h4 := hck h1 h3
      rw [i_le] at h1 h4
      have q1 : (1000 : Int32).toInt = 1000 := by decide
      have q4 : (1004 : Int32).toInt = 1004 := by decide
      have hs : (c - 1000).toInt = c.toInt - 1000 := by rw [i_sub (by omega), q1]
      have hin : vp_in (c - 1000) 5 := vp_in_iff.mpr (by omega)
      refine ⟨hin, ?_⟩
      obtain ⟨j, hj, ej⟩ := vp_in_of hin (by decide)
      rw [ej, nI_clamp (n := j) (by omega), h104 j hj]
      exact fin (W j) (by rw [if_pos (i_le.mpr (by omega)), ej, nI_clamp (n := j) (by omega)])
/-- a law reckoned -/
theorem s_reckons {a : Row} {law : Nat} {W : Nat → Int32} {h : Hp} {Q : Int32 → Hp → Prop} (hlaw : law < 2) (hok : codeOK a law) (h99 : ∀ j, gI h 99 j = a j) (h104 : ∀ j, j < 5 → gI h 104 j = W j) (k : ∀ h1, Fr (o1 103) h h1 → Q (rkA a law W) h1) : M_reckons (nI law) h Q := by
  obtain ⟨⟨b, m, hb, hm, hbm, hm0⟩, hc, hv⟩ := hok
  obtain ⟨v, hv⟩ := hv W
  have e : rkA a law W = v := by unfold rkA; rw [hv]
  rw [e] at k
  exact ⟨m + 1, reck_loop hlaw hb hm hbm hm0 hc m 0 0 h (by omega) (Nat.le_refl 0) h99 h104 hv k⟩
