/-! a fresh row; the copy of a row -/
theorem m_plain2 {h : Hp} {Q : Hp → Prop} (k : ∀ h1, Fq (fun o _ => o == 102) h h1 → (∀ j, j < 1092 → gI h1 102 j = if 62 ≤ j ∧ j < 70 then -1 else 0) → Q h1) : M_plain 102 h Q := by
  have al : alen 102 = 1092 := by decide
  unfold M_plain
  refine pk_loop (σ := Hp) (fun n' i g => M_plain_L2 102 (fun h4 => ∃ n7, M_plain_L21 102 Q n7 0 h4) n' (nI i) g) (fun i g => Fq (fun o _ => o == 102) h g ∧ ∀ j, j < i → gI g 102 j = 0) 1092 0 h (by omega) ⟨Fq.rf _ _, fun j hj => absurd hj (by omega)⟩ (fun n' g J => ?_) (fun n' i g hi J hk => ?_)
  · unfold M_plain_L2
    refine pk_le 1092 1092 (fun _ => ?_) (fun z => absurd z (by omega))
    refine pk_loop (σ := Hp) (fun n' i g => M_plain_L21 102 Q n' (nI i) g) (fun i g => Fq (fun o _ => o == 102) h g ∧ ∀ j, j < 1092 → gI g 102 j = if 62 ≤ j ∧ j < 62 + i then -1 else 0) 8 0 g (by omega) ⟨J.1, fun j hj => by rw [if_neg (by omega)]; exact J.2 j hj⟩ (fun n' g J => ?_) (fun n' i g hi J hk => ?_)
    · unfold M_plain_L21
      exact pk_le 8 8 (fun _ => k g J.1 J.2) (fun z => absurd z (by omega))
    · unfold M_plain_L21
      rw [al, show (62 : Int32) = nI 62 from rfl, nI_add]
      refine pk_le 8 i (fun z => absurd z (by omega)) (fun _ => ⟨pk_in (62 + i) 1092 (by omega), ?_⟩)
      rw [cl (62 + i)]
      rintro _ rfl _ rfl
      rw [nI_1 i]
      refine hk _ ⟨Fq.sI J.1 rfl, fun j hj => ?_⟩
      by_cases e : j = 62 + i
      · subst e; rw [sI_s, if_pos (by omega)]
      · rw [sI_k e, J.2 j hj]
        by_cases c : 62 ≤ j ∧ j < 62 + i
        · rw [if_pos c, if_pos (by omega)]
        · rw [if_neg c, if_neg (by omega)]
  · unfold M_plain_L2
    rw [al]
    refine pk_le 1092 i (fun z => absurd z (by omega)) (fun _ => ⟨pk_in i 1092 (by omega), ?_⟩)
    rw [cl i]
    rintro _ rfl _ rfl
    rw [nI_1 i]
    refine hk _ ⟨Fq.sI J.1 rfl, fun j hj => ?_⟩
    by_cases e : j = i
    · subst e; rw [sI_s]
    · rw [sI_k e]; exact J.2 j (by omega)
theorem m_copy {h : Hp} {K : Hp → Prop} (k : ∀ h1, Fq (fun o _ => o == 99) h h1 → (∀ j, j < 1092 → gI h1 99 j = gI h 102 j) → (∀ j, ¬ j < 1092 → gI h1 99 j = gI h 99 j) → K h1) : ∃ n30, M_land_L168 K n30 0 h := by
  refine pk_loop (σ := Hp) (fun n' i g => M_land_L168 K n' (nI i) g) (fun i g => Fq (fun o _ => o == 99) h g ∧ (∀ j, j < i → gI g 99 j = gI h 102 j) ∧ ∀ j, ¬ j < 1092 → gI g 99 j = gI h 99 j) 1092 0 h (by omega) ⟨Fq.rf _ _, fun j hj => absurd hj (by omega), fun j _ => rfl⟩ (fun n' g J => ?_) (fun n' i g hi J hk => ?_)
  · unfold M_land_L168
    exact pk_le 1092 1092 (fun _ => k g J.1 J.2.1 J.2.2) (fun z => absurd z (by omega))
  · unfold M_land_L168
    refine pk_le 1092 i (fun z => absurd z (by omega)) (fun _ => ⟨pk_in i 1092 (by omega), pk_in i 3276 (by omega), ?_⟩)
    rw [cl i]
    rintro _ rfl _ rfl
    rw [nI_1 i]
    refine hk _ ⟨Fq.sI J.1 rfl, fun j hj => ?_, fun j hj => ?_⟩
    · by_cases e : j = i
      · subst e; rw [sI_s]; exact J.1.1.1 102 j rfl
      · rw [sI_k e]; exact J.2.1 j (by omega)
    · rw [sI_k (by omega)]; exact J.2.2 j hj
