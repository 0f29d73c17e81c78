/-! the reference reads a law by the same rules -/
def mF (s : Nat) : Nat → Nat → Bool := fun o k => (o == 98 && (k == 6 || k == 7 || k == 9 || k == 10 || k == 11 || k == 12)) || (o == 102 && (k == 191 || decide (192 + s ≤ k)))
def MSr (s : Nat) (h : Hp) : Rs → Prop
  | .inl p => gI h 98 11 = 0 ∧ MT h p.1 ∧ gI h 102 191 = nI (s + p.2.length) ∧ ∀ i, i < p.2.length → gI h 102 (192 + s + i) = nI (p.2.getD i 0)
  | .inr x => gI h 98 11 = nI x.1 ∧ gI h 98 12 = nI x.2
def MS (s : Nat) (h0 h : Hp) (r : Rs) : Prop := Fq (mF s) h0 h ∧ MSr s h r
def MK (b : Nat → Nat) (n s : Nat) (r : Rs) : Prop := ROK b n r ∧ s + lnR r ≤ lvR n r
def MW (b : Nat → Nat) (n : Nat) (h0 : Hp) : Prop := TpB b n ∧ TpM h0 b n
theorem mF_T (s o k : Nat) (h : (o = 98 ∧ k = 8) ∨ o = 101) : mF s o k = false := by
  rcases h with ⟨rfl, rfl⟩ | rfl <;> rfl
theorem MS_T {s : Nat} {b : Nat → Nat} {n : Nat} {h0 h : Hp} {r : Rs} (W : MW b n h0) (S : MS s h0 h r) : TpM h b n := TpM_k W.2 S.1 (mF_T s)
theorem o98_mF (s o k : Nat) (h : mF s o k = false) : o98t o k = false := by
  simp only [mF, o98t, Bool.or_eq_false_iff, Bool.and_eq_false_iff] at h ⊢
  rcases h.1 with z | z
  · exact Or.inl z
  · exact Or.inr ⟨⟨⟨z.1.1.1.1.1, z.1.1.1.1.2⟩, z.1.1.1.2⟩, z.1.1.2⟩
theorem n_next {s : Nat} {b : Nat → Nat} {n : Nat} {h0 h : Hp} {p : (Nat × Nat × Nat × Nat) × List Nat} {Q : Hp → Prop} (W : MW b n h0) (K : TkOK b n p.1) (S : MS s h0 h (.inl p)) (k : ∀ h1, MS s h0 h1 (nxR b n (.inl p)) → Q h1) : M_next h Q := by
  have T := MS_T W S
  obtain ⟨F, s1, s2, s3, s4⟩ := S
  exact m_next W.1 T s2.2.1 K.2.1 (fun h1 F1 C1 => k h1 ⟨F.tr (F1.mo (o98_mF s)), (F1.1.1 98 11 rfl).trans s1, C1, (F1.1.1 102 191 rfl).trans s3, fun i hi => (F1.1.1 102 _ rfl).trans (s4 i hi)⟩)
theorem tk_lt {b : Nat → Nat} {n : Nat} {t : Nat × Nat × Nat × Nat} (K : TkOK b n t) : t.2.2.1 < 42 := by
  have h : t.2.2.1 < 20 ∨ t.2.2.1 = 22 ∨ t.2.2.1 = 23 ∨ t.2.2.1 = 24 ∨ t.2.2.1 = 25 ∨ (30 ≤ t.2.2.1 ∧ t.2.2.1 < 42) := K.2.2.2.2.2.2.2
  omega
theorem n_is {s : Nat} {b : Nat → Nat} {n kk : Nat} {x : Int32} {h0 h : Hp} {r : Rs} {Q : Int32 → Hp → Prop} (K : ROK b n r) (S : MS s h0 h r) (hx : x = nI kk) (hk : kk < 99) (kY : kdR r = kk → Q 1 h) (kN : kdR r ≠ kk → Q 0 h) : M_is x h Q := by
  unfold M_is
  rcases r with p | y
  · refine brT' S.2.1 ?_
    have := tk_lt K.1
    have e : gI h 98 9 = x ↔ p.1.2.2.1 = kk := by
      rw [S.2.2.1.2.2.1, hx]
      exact nI_eq (by omega) (by omega)
    rw [e]
    exact ⟨kN, kY⟩
  · refine brF' (fun z => w_ne K (S.2.1.symm.trans z)) (kN ?_)
    show 99 ≠ kk
    omega
theorem kd_in {r : Rs} {kk : Nat} (h : kdR r = kk) (hk : kk < 99) : ∃ p, r = .inl p := by
  rcases r with p | y
  · exact ⟨p, rfl⟩
  · have h : 99 = kk := h
    omega
theorem n_eats {s : Nat} {b : Nat → Nat} {n kk : Nat} {x : Int32} {h0 h : Hp} {r : Rs} {Q : Int32 → Hp → Prop} (W : MW b n h0) (K : ROK b n r) (S : MS s h0 h r) (hx : x = nI kk) (hk : kk < 99) (kY : kdR r = kk → ∀ h1, MS s h0 h1 (nxR b n r) → Q 1 h1) (kN : kdR r ≠ kk → Q 0 h) : M_eats x h Q := by
  unfold M_eats
  refine n_is K S hx hk (fun c => brF' (by decide) ?_) (fun c => brT' rfl (kN c))
  obtain ⟨p, rfl⟩ := kd_in c hk
  exact n_next W K.1 S (kY c)
theorem n_fails {s : Nat} {b : Nat → Nat} {n kk : Nat} {x : Int32} {h0 h : Hp} {r : Rs} {Q : Hp → Prop} (K : ROK b n r) (S : MS s h0 h r) (hx : x = nI kk) (k : ∀ h1, MS s h0 h1 (flR kk r) → Q h1) : M_fails x h Q := by
  unfold M_fails
  rcases r with p | y
  · obtain ⟨F, s1, s2, s3, s4⟩ := S
    have go : ∀ v : Nat, (v = if p.1.2.2.1 = 25 then 1 else kk) → ∀ h5 : Hp, h5 = sI h 98 11 (nI v) → ∀ h6 : Hp, h6 = sI h5 98 12 (gI h5 98 6) → Q h6 := by
      rintro v hv _ rfl _ rfl
      refine k _ ⟨Fq.sI (Fq.sI F rfl) rfl, ?_, ?_⟩
      · rw [sI_k (by decide), sI_s, hv]
      · rw [sI_s, sI_k (by decide)]; exact s2.1
    have := tk_lt K.1
    have e : gI h 98 9 = 25 ↔ p.1.2.2.1 = 25 := by
      rw [s2.2.2.1]
      exact nI_eq (a := p.1.2.2.1) (b := 25) (by omega) (by omega)
    refine brT s1 ?_
    rintro J23 rfl
    rw [e]
    refine ⟨fun c => ?_, fun c => ?_⟩
    · rw [hx]
      exact go kk (by rw [if_neg c])
    · exact go 1 (by rw [if_pos c])
  · exact brF (fun z => w_ne K (S.2.1.symm.trans z)) (k h S)
theorem n_exp {s : Nat} {b : Nat → Nat} {n kk : Nat} {x : Int32} {h0 h : Hp} {r : Rs} {J : Hp → Prop} (W : MW b n h0) (K : ROK b n r) (S : MS s h0 h r) (hx : x = nI kk) (hk : kk < 99) (k : ∀ h1, MS s h0 h1 (exR b n kk r) → J h1) : M_eats x h (fun r1 h2 => (¬ r1 = 0 → J h2) ∧ (r1 = 0 → M_fails 2 h2 (fun h3 => J h3))) := by
  unfold exR at k
  refine n_eats W K S hx hk (fun c h1 S1 => brF' (by decide) ?_) (fun c => brT' rfl ?_)
  · rw [if_pos c] at k; exact k h1 S1
  · rw [if_neg c] at k; exact n_fails K S rfl k
theorem n_expJ {s : Nat} {b : Nat → Nat} {n kk : Nat} {x : Int32} {h0 h : Hp} {r : Rs} {J : Hp → Prop} (W : MW b n h0) (K : ROK b n r) (S : MS s h0 h r) (hx : x = nI kk) (hk : kk < 99) (k : ∀ h1, MS s h0 h1 (exR b n kk r) → J h1) : M_eats x h (fun r1 h2 => ∀ J1 : Hp → Prop, J1 = J → (¬ r1 = 0 → J1 h2) ∧ (r1 = 0 → M_fails 2 h2 (fun h3 => J1 h3))) := by
  unfold exR at k
  refine n_eats W K S hx hk (fun c h1 S1 => ?_) (fun c => ?_)
  · rintro J1 rfl
    rw [if_pos c] at k; exact brF' (by decide) (k h1 S1)
  · rintro J1 rfl
    rw [if_neg c] at k; exact brT' rfl (n_fails K S rfl k)
theorem n_codes {s : Nat} {n c : Nat} {x : Int32} {h0 h : Hp} {r : Rs} {Q : Hp → Prop} {b : Nat → Nat} (K : ROK b n r) (S : MS s h0 h r) (hx : x = nI c) (hl : s + lnR r < 900) (k : ∀ h1, MS s h0 h1 (adR c r) → Q h1) : M_codes x h Q := by
  unfold M_codes
  rcases r with p | y
  · obtain ⟨F, s1, s2, s3, s4⟩ := S
    have hl : s + p.2.length < 900 := hl
    refine brT s1 ?_
    rw [s3, show (192 : Int32) = nI 192 from rfl, nI_add]
    refine ⟨pk_in (192 + (s + p.2.length)) 1092 (by omega), ?_⟩
    rw [cl (192 + (s + p.2.length))]
    rintro _ rfl _ rfl
    rw [sI_k (by omega), s3, nI_1]
    have f1 : mF s 102 (192 + (s + p.2.length)) = true := by
      simp only [mF, Bool.or_eq_true, Bool.and_eq_true, decide_eq_true_eq]
      exact Or.inr ⟨rfl, Or.inr (by omega)⟩
    have o1 : (98 : Nat) ≠ 102 := by decide
    refine k _ ⟨Fq.sI (Fq.sI F f1) rfl, ?_, ⟨?_, ?_, ?_, fun z => ?_⟩, ?_, fun i hi => ?_⟩
    · rw [sI_o o1, sI_o o1]; exact s1
    · rw [sI_o o1, sI_o o1]; exact s2.1
    · rw [sI_o o1, sI_o o1]; exact s2.2.1
    · rw [sI_o o1, sI_o o1]; exact s2.2.2.1
    · rw [sI_o o1, sI_o o1]; exact s2.2.2.2 z
    · rw [sI_s]
      show nI (s + p.2.length + 1) = nI (s + (p.2 ++ [c]).length)
      rw [List.length_append]; rfl
    · have hi : i < (p.2 ++ [c]).length := hi
      rw [List.length_append] at hi
      have hi : i < p.2.length + 1 := hi
      show _ = nI ((p.2 ++ [c]).getD i 0)
      rw [sI_k (by omega)]
      by_cases e : i = p.2.length
      · subst e
        rw [show 192 + s + p.2.length = 192 + (s + p.2.length) by omega, sI_s, hx]
        congr 1
        simp
      · rw [sI_k (by omega), s4 i (by omega)]
        congr 1
        rw [List.getD_eq_getElem?_getD, List.getD_eq_getElem?_getD, List.getElem?_append_left (by omega)]
  · exact brF (fun z => w_ne K (S.2.1.symm.trans z)) (k h S)
theorem n_goes {s : Nat} {b : Nat → Nat} {n d : Nat} {h0 h : Hp} {p : (Nat × Nat × Nat × Nat) × List Nat} {Q : Int32 → Hp → Prop} (W : MW b n h0) (K : ROK b n (.inl p)) (S : MS s h0 h (.inl p)) (hd : d ≤ 6) (kY : d < 6 → ∀ h1, MS s h0 h1 (nxR b n (.inl p)) → Q 1 h1) (kN : d = 6 → ∀ h1, MS s h0 h1 (flR 4 (.inl p)) → Q 0 h1) : M_goesIn (nI d) h Q := by
  unfold M_goesIn
  rintro J11 rfl
  have e : nI d = 6 ↔ d = 6 := nI_eq (a := d) (b := 6) (by omega) (by omega)
  rw [e]
  refine ⟨fun c => ?_, fun c => n_fails K S rfl (fun h1 S1 => ?_)⟩
  · rintro J22 rfl
    exact brT' S.2.1 (n_next W K.1 S (fun h1 S1 => brT' S1.2.1 (kY (by omega) h1 S1)))
  · rintro J22 rfl
    have ne : ¬ gI h1 98 11 = 0 := fun z => w_ne (fl_iv (k := 4) K (by omega) (by omega)).1 (S1.2.1.symm.trans z)
    exact brF' ne (brF' ne (kN c h1 S1))
def wdM (k : Nat) : Int32 := if k = 1 then 4 else if k = 5 then 3 else if k = 14 then 0 else if k = 15 then 1 else if k = 16 then 2 else -1
theorem n_word {k : Nat} {h : Hp} {Q : Int32 → Hp → Prop} (hk : k < 42) (q : Q (wdM k) h) : M_wordOf (nI k) h Q := by
  unfold M_wordOf
  unfold wdM at q
  have e1 : nI k = 1 ↔ k = 1 := nI_eq (a := k) (b := 1) (by omega) (by omega)
  have e5 : nI k = 5 ↔ k = 5 := nI_eq (a := k) (b := 5) (by omega) (by omega)
  have e14 : nI k = 14 ↔ k = 14 := nI_eq (a := k) (b := 14) (by omega) (by omega)
  have e15 : nI k = 15 ↔ k = 15 := nI_eq (a := k) (b := 15) (by omega) (by omega)
  have e16 : nI k = 16 ↔ k = 16 := nI_eq (a := k) (b := 16) (by omega) (by omega)
  rw [e1, e5, e14, e15, e16]
  refine ⟨fun z => ?_, fun z => ?_, fun z => ?_, fun z => ?_, fun z => ?_, fun ⟨z1, z2, z3, z4, z5⟩ => ?_⟩
  · subst z; exact q
  · subst z; exact q
  · subst z; exact q
  · subst z; exact q
  · subst z; exact q
  · rw [if_neg z1, if_neg z2, if_neg z3, if_neg z4, if_neg z5] at q; exact q
theorem wd_ac {p : (Nat × Nat × Nat × Nat) × List Nat} (h : p.1.2.2.1 ≠ 23) : (acR (.inl p) = none → wdM p.1.2.2.1 = -1) ∧ (∀ c, acR (.inl p) = some c → wdM p.1.2.2.1 ≠ -1 ∧ (1000 : Int32) + wdM p.1.2.2.1 = nI c) := by
  have a : acR (.inl p) = if p.1.2.2.1 = 14 then some 1000 else if p.1.2.2.1 = 15 then some 1001 else if p.1.2.2.1 = 16 then some 1002 else if p.1.2.2.1 = 5 then some 1003 else if p.1.2.2.1 = 1 then some 1004 else none := if_neg h
  rw [a]
  generalize p.1.2.2.1 = k
  by_cases c1 : k = 14
  · subst c1; exact ⟨fun z => (by cases z), fun c z => (by cases z; exact ⟨by decide, by decide⟩)⟩
  by_cases c2 : k = 15
  · subst c2; exact ⟨fun z => (by cases z), fun c z => (by cases z; exact ⟨by decide, by decide⟩)⟩
  by_cases c3 : k = 16
  · subst c3; exact ⟨fun z => (by cases z), fun c z => (by cases z; exact ⟨by decide, by decide⟩)⟩
  by_cases c4 : k = 5
  · subst c4; exact ⟨fun z => (by cases z), fun c z => (by cases z; exact ⟨by decide, by decide⟩)⟩
  by_cases c5 : k = 1
  · subst c5; exact ⟨fun z => (by cases z), fun c z => (by cases z; exact ⟨by decide, by decide⟩)⟩
  unfold wdM
  rw [if_neg c1, if_neg c2, if_neg c3, if_neg c4, if_neg c5, if_neg c5, if_neg c4, if_neg c1, if_neg c2, if_neg c3]
  exact ⟨fun _ => rfl, fun c z => (by cases z)⟩
