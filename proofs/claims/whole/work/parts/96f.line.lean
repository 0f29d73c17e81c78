/-! a number, read by both -/
def nmR (b : Nat → Nat) (n lim : Nat) : Rs → Rs
  | .inl p => if p.1.2.2.1 = 23 then (if p.1.2.2.2 < lim then nxR b n (.inl p) else flR 3 (.inl p)) else flR 2 (.inl p)
  | .inr x => .inr x
def vlR : Rs → Nat
  | .inl p => p.1.2.2.2
  | .inr _ => 0
theorem nm_1 {b : Nat → Nat} {n lim : Nat} {p : (Nat × Nat × Nat × Nat) × List Nat} (c : p.1.2.2.1 = 23) (d : p.1.2.2.2 < lim) : nmR b n lim (.inl p) = nxR b n (.inl p) := by
  show (if p.1.2.2.1 = 23 then (if p.1.2.2.2 < lim then nxR b n (.inl p) else flR 3 (.inl p)) else flR 2 (.inl p)) = _
  rw [if_pos c, if_pos d]
theorem nm_2 {b : Nat → Nat} {n lim : Nat} {p : (Nat × Nat × Nat × Nat) × List Nat} (c : p.1.2.2.1 = 23) (d : ¬ p.1.2.2.2 < lim) : nmR b n lim (.inl p) = flR 3 (.inl p) := by
  show (if p.1.2.2.1 = 23 then (if p.1.2.2.2 < lim then nxR b n (.inl p) else flR 3 (.inl p)) else flR 2 (.inl p)) = _
  rw [if_pos c, if_neg d]
theorem nm_3 {b : Nat → Nat} {n lim : Nat} {p : (Nat × Nat × Nat × Nat) × List Nat} (c : ¬ p.1.2.2.1 = 23) : nmR b n lim (.inl p) = flR 2 (.inl p) := by
  show (if p.1.2.2.1 = 23 then (if p.1.2.2.2 < lim then nxR b n (.inl p) else flR 3 (.inl p)) else flR 2 (.inl p)) = _
  rw [if_neg c]
theorem nm_iv {b : Nat → Nat} {n lim : Nat} {r : Rs} (h : ROK b n r) : ROK b n (nmR b n lim r) ∧ lnR (nmR b n lim r) ≤ lnR r ∧ lvR n r ≤ lvR n (nmR b n lim r) := by
  rcases r with p | x
  · by_cases c : p.1.2.2.1 = 23
    · by_cases d : p.1.2.2.2 < lim
      · rw [nm_1 c d]
        have := nx_iv h
        exact ⟨this.1, Nat.le_of_eq this.2.1, this.2.2.1⟩
      · rw [nm_2 c d]; exact fl_iv h (by omega) (by omega)
    · rw [nm_3 c]; exact fl_iv h (by omega) (by omega)
  · exact ⟨h, Nat.le_refl _, Nat.le_refl _⟩
theorem fl_no {k : Nat} {r : Rs} : ¬ ∃ p, flR k r = .inl p := fun ⟨_, h⟩ => fl_in h
theorem r_number {q : Nat} {b : Nat → Nat} {n lim : Nat} {x : Int32} {h0 h : Hp} {r : Rs} {Q : Int32 → Hp → Prop} (W : CW q b n h0) (K : ROK b n r) (S : CS q b n h0 h r) (hx : x.toInt = (lim : Int) - 1) (k : ∀ h1 v, CS q b n h0 h1 (nmR b n lim r) → ((∃ p, nmR b n lim r = .inl p) → v = nI (vlR r) ∧ vlR r < lim) → Q v h1) : Reader_number x h Q := by
  unfold Reader_number
  rintro J17 rfl
  rcases r with p | y
  · refine brT' S.2.1 (r_num S (fun c => brF' (by decide) ?_) (fun c => brT' rfl ?_))
    · rintro _ rfl
      rw [S.2.2.1.2.2.2 c]
      have v := K.1.2.2.2.2.2.2.1 c
      have e : nI p.1.2.2.2 ≤ x ↔ p.1.2.2.2 < lim := by
        rw [i_le, nI_toInt (by omega), hx]; omega
      rw [e]
      refine ⟨fun d => r_adv W K S (fun h1 S1 => k h1 _ ?_ (fun _ => ⟨rfl, d⟩)), fun d => r_refuse (kk := 3) W K S rfl (fun h1 S1 => k h1 _ ?_ (fun z => ?_))⟩
      · rw [nm_1 c d]; exact S1
      · rw [nm_2 c d]; exact S1
      · rw [nm_2 c d] at z; exact absurd z fl_no
    · refine r_refuse (kk := 2) W K S rfl (fun h1 S1 => k h1 _ ?_ (fun z => ?_))
      · rw [nm_3 c]; exact S1
      · rw [nm_3 c] at z; exact absurd z fl_no
  · refine brF' (fun z => w_ne K (S.2.1.symm.trans z)) (r_refuse (kk := 2) W K S rfl (fun h1 S1 => k h1 _ S1 (fun z => ?_)))
    obtain ⟨_, z⟩ := z
    cases (show (Sum.inr y : Rs) = .inl _ from z)
theorem n_takes {s : Nat} {b : Nat → Nat} {n lim : Nat} {x : Int32} {h0 h : Hp} {r : Rs} {Q : Int32 → Hp → Prop} (W : MW b n h0) (K : ROK b n r) (S : MS s h0 h r) (hx : x.toInt = (lim : Int) - 1) (k : ∀ h1 v, MS s h0 h1 (nmR b n lim r) → ((∃ p, nmR b n lim r = .inl p) → v = nI (vlR r) ∧ vlR r < lim) → Q v h1) : M_takes 0 x h Q := by
  unfold M_takes
  have bad : ∀ (kk : Nat) (xx : Int32), 0 < kk → kk < 5 → xx = nI kk → nmR b n lim r = flR kk r → M_fails xx h (fun h8 => ∀ v4 : Int32, v4 = (gI h8 98 10) → (¬ (gI h8 98 11) = 0 → Q v4 h8) ∧ ((gI h8 98 11) = 0 → M_next h8 (fun h5 => Q v4 h5))) := by
    intro kk xx k1 k2 hk e
    refine n_fails K S hk (fun h1 S1 => ?_)
    rintro _ rfl
    have ne : ¬ gI h1 98 11 = 0 := by
      have R := (fl_iv (k := kk) K k1 k2).1
      rcases r with p | y
      · exact fun z => w_ne R (S1.2.1.symm.trans z)
      · exact fun z => w_ne R (S1.2.1.symm.trans z)
    refine brF' ne (k h1 _ (by rw [e]; exact S1) (fun z => ?_))
    rw [e] at z; exact absurd z fl_no
  refine n_is K S (kk := 23) rfl (by decide) (fun c => ?_) (fun c => ?_)
  · obtain ⟨p, rfl⟩ := kd_in c (by decide)
    have c : p.1.2.2.1 = 23 := c
    rintro J37 rfl
    have v := K.1.2.2.2.2.2.2.1 c
    have ev := S.2.2.1.2.2.2 c
    have e0 : ((0 : Int32).toInt64).toInt = 0 := by decide
    refine brF' (by decide) ?_
    refine m_in (fun a1 a2 => brF' (by decide) ?_) (fun a => brT' rfl ?_)
    · rw [ev, nI_toInt (by omega), Int32.toInt_toInt64, hx] at a2
      have d : p.1.2.2.2 < lim := by omega
      rintro _ rfl
      refine brT' S.2.1 (n_next W K.1 S (fun h1 S1 => ?_))
      rw [ev]
      refine k h1 _ ?_ (fun _ => ⟨rfl, d⟩)
      rw [nm_1 c d]; exact S1
    · rw [ev, nI_toInt (by omega), e0, Int32.toInt_toInt64, hx] at a
      have d : ¬ p.1.2.2.2 < lim := by omega
      exact bad 3 3 (by omega) (by omega) rfl (by rw [nm_2 c d])
  · rintro J37 rfl
    refine brT' rfl (bad 2 2 (by omega) (by omega) rfl ?_)
    rcases r with p | y
    · have c : ¬ p.1.2.2.1 = 23 := c
      rw [nm_3 c]
    · rfl
