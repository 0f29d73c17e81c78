/-! the class reads a law -/
def cvC (c : Nat) : Nat := if c < 3000 then c else (([1010, 1011, 1012, 1013, 1014, 1015, 1018, 1016, 1017, 1019] : List Nat).getD (c - 3000) 0)
def cF (q : Nat) : Nat → Nat → Bool := fun o k => (o == 2 && (k == 13 || k == 14)) || (o == 3 && (k == 2 || k == 3 || k == 4 || k == 5)) || (o == q && k == 3) || o == q + 1
def CSr (q : Nat) (b : Nat → Nat) (n : Nat) (h : Hp) : Rs → Prop
  | .inl p => gI h 2 13 = 0 ∧ CT h p.1 ∧ gI h q 3 = nI p.2.length ∧ (∀ i, i < p.2.length → gI h (q + 1) i = nI (cvC (p.2.getD i 0))) ∧ gI h 2 14 = -1
  | .inr x => gI h 2 13 = nI x.1 ∧ gI h 2 14 = nI x.2 ∧ ∃ m t, m ≤ 900 ∧ gI h q 3 = nI m ∧ TkOK b n t ∧ CT h t
def CS (q : Nat) (b : Nat → Nat) (n : Nat) (h0 h : Hp) (r : Rs) : Prop := Fq (cF q) h0 h ∧ CSr q b n h r
def CW (q : Nat) (b : Nat → Nat) (n : Nat) (h0 : Hp) : Prop := TpB b n ∧ TpC h0 b n ∧ (q = 4 ∨ q = 7)
theorem cF_T {q : Nat} (hq : q = 4 ∨ q = 7) (o k : Nat) (h : (o = 3 ∧ k = 1) ∨ o = 1) : cF q o k = false := by
  rcases hq with rfl | rfl <;> rcases h with ⟨rfl, rfl⟩ | rfl <;> rfl
theorem CS_T {q : Nat} {b : Nat → Nat} {n : Nat} {h0 h : Hp} {r : Rs} (W : CW q b n h0) (S : CS q b n h0 h r) : TpC h b n := TpC_k W.2.1 S.1 (cF_T W.2.2)
theorem CS_q {q : Nat} {b : Nat → Nat} {n : Nat} {h0 h : Hp} {r : Rs} (G : gR h0 1 = some q) (S : CS q b n h0 h r) : gR h 1 = some q := (S.1.2 1).trans G
theorem q_SH {q : Nat} (hq : q = 4 ∨ q = 7) : SH q = .inl 3 ∧ rf q 0 = q + 1 := by rcases hq with rfl | rfl <;> exact ⟨rfl, rfl⟩
theorem o3_cF (q o k : Nat) (h : cF q o k = false) : o3t o k = false := by
  simp only [cF, Bool.or_eq_false_iff] at h
  exact h.1.1.2
theorem r_adv0 {q : Nat} {b : Nat → Nat} {n : Nat} {h0 h : Hp} {p : (Nat × Nat × Nat × Nat) × List Nat} {Q : Hp → Prop} (W : CW q b n h0) (K : TkOK b n p.1) (S : CS q b n h0 h (.inl p)) (k : ∀ h1, CS q b n h0 h1 (nxR b n (.inl p)) → Q h1) : Tokens_advance h Q := by
  have T := CS_T W S
  obtain ⟨F, s1, s2, s3, s4, s5⟩ := S
  refine c_advance W.1 T s2.2.1 K.2.1 (fun h1 F1 C1 => k h1 ⟨F.tr (F1.mo (o3_cF q)), (F1.1.1 2 13 rfl).trans s1, C1, ?_, fun i hi => ?_, (F1.1.1 2 14 rfl).trans s5⟩)
  · rcases W.2.2 with rfl | rfl
    · exact (F1.1.1 4 3 rfl).trans s3
    · exact (F1.1.1 7 3 rfl).trans s3
  · rcases W.2.2 with rfl | rfl
    · exact (F1.1.1 5 i rfl).trans (s4 i hi)
    · exact (F1.1.1 8 i rfl).trans (s4 i hi)
theorem r_adv {q : Nat} {b : Nat → Nat} {n : Nat} {h0 h : Hp} {p : (Nat × Nat × Nat × Nat) × List Nat} {Q : Hp → Prop} (W : CW q b n h0) (K : ROK b n (.inl p)) (S : CS q b n h0 h (.inl p)) (k : ∀ h1, CS q b n h0 h1 (nxR b n (.inl p)) → Q h1) : Tokens_advance h Q := r_adv0 W K.1 S k
theorem r_is {q : Nat} {b : Nat → Nat} {n o : Nat} {h0 h : Hp} {p : (Nat × Nat × Nat × Nat) × List Nat} {Q : Int32 → Hp → Prop} (W : CW q b n h0) (K : ROK b n (.inl p)) (S : CS q b n h0 h (.inl p)) (ho : o < 33) (h1 : 1 ≤ o) (kY : p.1.2.2.1 = stK o → Q 1 h) (kN : p.1.2.2.1 ≠ stK o → Q 0 h) : Tokens_is o h Q := by
  refine c_is W.1 (CS_T W S) K.1 S.2.2.1 ho h1 ?_
  by_cases c : p.1.2.2.1 = stK o
  · rw [if_pos c]; exact kY c
  · rw [if_neg c]; exact kN c
theorem stK_lt : ∀ o, o < 33 → stK o < 42 := by decide
theorem w_ne {w : Nat} (h : 0 < w ∧ w < 5) : ¬ nI w = 0 := fun z => by
  have := (nI_eq (a := w) (b := 0) (by omega) (by omega)).mp z
  omega
theorem r_take {q : Nat} {b : Nat → Nat} {n o : Nat} {h0 h : Hp} {r : Rs} {Q : Int32 → Hp → Prop} (W : CW q b n h0) (K : ROK b n r) (S : CS q b n h0 h r) (ho : o < 33) (h1 : 1 ≤ o) (kY : kdR r = stK o → ∀ h1, CS q b n h0 h1 (nxR b n r) → Q 1 h1) (kN : kdR r ≠ stK o → Q 0 h) : Reader_take o h Q := by
  unfold Reader_take
  rcases r with p | x
  · refine brT' S.2.1 (r_is W K S ho h1 (fun c => ?_) (fun c => ?_))
    · exact brF (by decide) (r_adv W K S (kY c))
    · exact brT rfl (kN c)
  · refine brF' (fun z => w_ne K (S.2.1.symm.trans z)) (kN ?_)
    have := stK_lt o ho
    show 99 ≠ stK o
    omega
theorem ckd1 (k : Nat) : (ckd k = 1 ↔ k = 25) ∧ (ckd k = 3 ↔ k = 23) ∧ (ckd k = 0 ↔ k = 24) := by
  unfold ckd
  refine ⟨⟨fun h => ?_, fun h => by subst h; rfl⟩, ⟨fun h => ?_, fun h => by subst h; rfl⟩, ⟨fun h => ?_, fun h => by subst h; rfl⟩⟩
  all_goals
    revert h
    split
    · intro h; omega
    · split
      · intro h; omega
      · split
        · intro h; omega
        · split <;> intro h <;> omega
theorem CT_k {h : Hp} {t : Nat × Nat × Nat × Nat} {o k : Nat} {x : Int32} (C : CT h t) (hk : 5 < k) : CT (sI h o k x) t :=
  ⟨by rw [sI_k (by omega)]; exact C.1, by rw [sI_k (by omega)]; exact C.2.1, by rw [sI_k (by omega)]; exact C.2.2.1, fun z => by rw [sI_k (by omega)]; exact C.2.2.2 z⟩
theorem r_refuse {q : Nat} {b : Nat → Nat} {n kk : Nat} {x : Int32} {h0 h : Hp} {r : Rs} {Q : Hp → Prop} (W : CW q b n h0) (K : ROK b n r) (S : CS q b n h0 h r) (hx : x = nI kk) (k : ∀ h1, CS q b n h0 h1 (flR kk r) → Q h1) : Reader_refuse x h Q := by
  have B1 := W.1.1
  unfold Reader_refuse Tokens_isBad
  rcases r with p | y
  · obtain ⟨F, s1, s2, s3, s4⟩ := S
    have l := rok_le K
    have l1 : p.2.length ≤ p.1.1 := l.1
    have l2 : p.1.1 ≤ n := l.2
    have go : ∀ v : Nat, (v = if p.1.2.2.1 = 25 then 1 else kk) → ∀ h5 : Hp, h5 = sI h 2 13 (nI v) → ∀ h6 : Hp, h6 = sI h5 2 14 (gI h5 3 4) → Q h6 := by
      rintro v hv _ rfl _ rfl
      refine k _ ⟨Fq.sI (Fq.sI F rfl) rfl, ?_, ?_, p.2.length, p.1, by omega, ?_, K.1, CT_k (CT_k s2 (by omega)) (by omega)⟩
      · rw [sI_k (by decide), sI_s, hv]
      · rw [sI_s, sI_k (by decide)]; exact s2.1
      · rw [sI_k (by decide), sI_k (by decide)]; exact s3
    have e1 : gI h 3 3 = 1 ↔ p.1.2.2.1 = 25 := by
      rw [s2.2.2.1, ← (ckd1 p.1.2.2.1).1]
      exact nI_eq (a := ckd p.1.2.2.1) (b := 1) (by have := ckd_lt p.1.2.2.1; omega) (by omega)
    refine brT' s1 ?_
    rw [e1]
    refine ⟨fun c => ?_, fun c => ?_⟩
    · rintro J23 rfl
      refine brT rfl ?_
      rw [hx]
      exact go kk (by rw [if_neg c])
    · rintro J23 rfl
      exact brF (by decide) (go 1 (by rw [if_pos c]))
  · exact brF' (fun z => w_ne K (S.2.1.symm.trans z)) (k h S)
theorem r_expect {q : Nat} {b : Nat → Nat} {n o : Nat} {h0 h : Hp} {r : Rs} {Q : Hp → Prop} (W : CW q b n h0) (K : ROK b n r) (S : CS q b n h0 h r) (ho : o < 33) (h1 : 1 ≤ o) (k : ∀ h1, CS q b n h0 h1 (exR b n (stK o) r) → Q h1) : Reader_expect o h Q := by
  unfold Reader_expect
  unfold exR at k
  rcases r with p | x
  · refine r_is W K S ho h1 (fun c => ?_) (fun c => ?_)
    · rintro J28 rfl
      rw [if_pos (show kdR (.inl p) = stK o from c)] at k
      exact brF (by decide) (brT' S.2.1 (r_adv W K S k))
    · rintro J28 rfl
      rw [if_neg (show ¬ kdR (.inl p) = stK o from c)] at k
      exact brT rfl (r_refuse W K S rfl k)
  · obtain ⟨F, s1, s2, m, t, s3, s4, s5, s6⟩ := S
    have st := stK_lt o ho
    rw [if_neg (show ¬ kdR (.inr x) = stK o by show ¬ 99 = stK o; omega)] at k
    have T := CS_T (r := .inr x) W ⟨F, s1, s2, m, t, s3, s4, s5, s6⟩
    have ref : Reader_refuse 2 h (fun h4 => Q h4) := r_refuse (r := .inr x) W K ⟨F, s1, s2, m, t, s3, s4, s5, s6⟩ rfl k
    refine c_is W.1 T s5 s6 ho h1 ?_
    rintro J28 rfl
    exact ⟨fun _ => ref, fun _ => ⟨fun _ => ref, fun z => absurd (s1.symm.trans z) (w_ne K)⟩⟩
theorem r_add {q : Nat} {b : Nat → Nat} {n c : Nat} {x : Int32} {h0 h : Hp} {r : Rs} {Q : Hp → Prop} (W : CW q b n h0) (S : CS q b n h0 h r) (hx : x = nI (cvC c)) (hl : lnR r < 900) (k : ∀ h1, CS q b n h0 h1 (adR c r) → Q h1) : Law_add q x h Q := by
  obtain ⟨_, rq⟩ := q_SH W.2.2
  have f1 : ∀ i, cF q (q + 1) i = true := fun i => by simp [cF]
  have f2 : cF q q 3 = true := by simp [cF]
  unfold Law_add
  rcases r with p | y
  · obtain ⟨F, s1, s2, s3, s4, s14⟩ := S
    have hl : p.2.length < 900 := hl
    rw [s3, rq]
    refine pk_le 900 p.2.length (fun c => absurd c (by omega)) (fun _ => ⟨pk_in _ 900 hl, ?_⟩)
    rw [cl p.2.length]
    rintro _ rfl _ rfl
    rw [sI_o (by omega), s3, nI_1]
    have ne2 : (2 : Nat) ≠ q := by rcases W.2.2 with rfl | rfl <;> decide
    have ne3 : (3 : Nat) ≠ q := by rcases W.2.2 with rfl | rfl <;> decide
    have ne2' : (2 : Nat) ≠ q + 1 := by rcases W.2.2 with rfl | rfl <;> decide
    have ne3' : (3 : Nat) ≠ q + 1 := by rcases W.2.2 with rfl | rfl <;> decide
    refine k _ ⟨Fq.sI (Fq.sI F (f1 _)) f2, ?_, ⟨?_, ?_, ?_, fun z => ?_⟩, ?_, fun i hi => ?_, by rw [sI_o ne2, sI_o ne2']; exact s14⟩
    · rw [sI_o ne2, sI_o ne2']; exact s1
    · rw [sI_o ne3, sI_o ne3']; exact s2.1
    · rw [sI_o ne3, sI_o ne3']; exact s2.2.1
    · rw [sI_o ne3, sI_o ne3']; exact s2.2.2.1
    · rw [sI_o ne3, sI_o ne3']; exact s2.2.2.2 z
    · rw [sI_s]
      show nI (p.2.length + 1) = nI (p.2 ++ [c]).length
      rw [List.length_append]; rfl
    · have hi : i < (p.2 ++ [c]).length := hi
      rw [List.length_append] at hi
      have hi : i < p.2.length + 1 := hi
      show _ = nI (cvC ((p.2 ++ [c]).getD i 0))
      rw [sI_o (by omega)]
      by_cases e : i = p.2.length
      · subst e
        rw [sI_s, hx]
        congr 2
        simp
      · rw [sI_k e, s4 i (by omega)]
        congr 2
        rw [List.getD_eq_getElem?_getD, List.getD_eq_getElem?_getD, List.getElem?_append_left (by omega)]
  · obtain ⟨F, s1, s2, m, t, s3, s4, s5, s6⟩ := S
    rw [s4, rq]
    refine pk_le 900 m (fun c => k h ⟨F, s1, s2, m, t, s3, s4, s5, s6⟩) (fun _ => ⟨pk_in m 900 (by omega), ?_⟩)
    rintro _ rfl _ rfl
    rw [sI_o (by omega), s4, nI_1 m]
    have ne2 : (2 : Nat) ≠ q := by rcases W.2.2 with rfl | rfl <;> decide
    have ne3 : (3 : Nat) ≠ q := by rcases W.2.2 with rfl | rfl <;> decide
    have ne2' : (2 : Nat) ≠ q + 1 := by rcases W.2.2 with rfl | rfl <;> decide
    have ne3' : (3 : Nat) ≠ q + 1 := by rcases W.2.2 with rfl | rfl <;> decide
    refine k _ ⟨Fq.sI (Fq.sI F (f1 _)) f2, ?_, ?_, m + 1, t, by omega, ?_, s5, ⟨?_, ?_, ?_, fun z => ?_⟩⟩
    · rw [sI_o ne2, sI_o ne2']; exact s1
    · rw [sI_o ne2, sI_o ne2']; exact s2
    · rw [sI_s]
    · rw [sI_o ne3, sI_o ne3']; exact s6.1
    · rw [sI_o ne3, sI_o ne3']; exact s6.2.1
    · rw [sI_o ne3, sI_o ne3']; exact s6.2.2.1
    · rw [sI_o ne3, sI_o ne3']; exact s6.2.2.2 z
theorem r_deep {q : Nat} {b : Nat → Nat} {n d : Nat} {h0 h : Hp} {p : (Nat × Nat × Nat × Nat) × List Nat} {Q : Int32 → Hp → Prop} (W : CW q b n h0) (K : ROK b n (.inl p)) (S : CS q b n h0 h (.inl p)) (hd : d ≤ 6) (kY : d < 6 → Q 1 h) (kN : d = 6 → ∀ h1, CS q b n h0 h1 (flR 4 (.inl p)) → Q 0 h1) : Reader_mayDeepen (nI d) h Q := by
  unfold Reader_mayDeepen
  rintro J11 rfl
  refine pk_lt d 6 (fun c => brT' S.2.1 (kY c)) (fun c => r_refuse W K S rfl (fun h1 S1 => brF' (fun z => ?_) (kN (by omega) h1 S1)))
  exact w_ne (fl_iv K (by omega) (by omega) : ROK b n (flR 4 (.inl p)) ∧ _).1 (S1.2.1.symm.trans z)
theorem r_num {q : Nat} {b : Nat → Nat} {n : Nat} {h0 h : Hp} {p : (Nat × Nat × Nat × Nat) × List Nat} {Q : Int32 → Hp → Prop} (S : CS q b n h0 h (.inl p)) (kY : p.1.2.2.1 = 23 → Q 1 h) (kN : p.1.2.2.1 ≠ 23 → Q 0 h) : Tokens_isNumber h Q := by
  have e1 : gI h 3 3 = 3 ↔ p.1.2.2.1 = 23 := by
    rw [S.2.2.1.2.2.1, ← (ckd1 p.1.2.2.1).2.1]
    exact nI_eq (a := ckd p.1.2.2.1) (b := 3) (by have := ckd_lt p.1.2.2.1; omega) (by omega)
  unfold Tokens_isNumber
  rw [e1]
  exact ⟨kN, kY⟩
def nmC (k : Nat) : Int32 := if k = 14 then 1000 else if k = 15 then 1001 else if k = 16 then 1002 else if k = 5 then 1003 else if k = 1 then 1004 else -1
theorem r_name {q : Nat} {b : Nat → Nat} {n : Nat} {h0 h : Hp} {p : (Nat × Nat × Nat × Nat) × List Nat} {Q : Int32 → Hp → Prop} (W : CW q b n h0) (K : ROK b n (.inl p)) (S : CS q b n h0 h (.inl p)) (k : Q (nmC p.1.2.2.1) h) : Reader_nameCode h Q := by
  unfold Reader_nameCode
  unfold nmC at k
  refine r_is W K S (by omega) (by omega) (fun c => brF (by decide) ?_) (fun c => brT rfl (r_is W K S (by omega) (by omega) (fun c2 => brF (by decide) ?_) (fun c2 => brT rfl (r_is W K S (by omega) (by omega) (fun c3 => brF (by decide) ?_) (fun c3 => brT rfl (r_is W K S (by omega) (by omega) (fun c4 => brF (by decide) ?_) (fun c4 => brT rfl (r_is W K S (by omega) (by omega) (fun c5 => brF (by decide) ?_) (fun c5 => brT rfl ?_)))))))))
  · have c : p.1.2.2.1 = 14 := c
    rw [if_pos c] at k
    exact k
  · have c : p.1.2.2.1 ≠ 14 := c
    have c2 : p.1.2.2.1 = 15 := c2
    rw [if_neg c, if_pos c2] at k
    exact k
  · have c : p.1.2.2.1 ≠ 14 := c
    have c2 : p.1.2.2.1 ≠ 15 := c2
    have c3 : p.1.2.2.1 = 16 := c3
    rw [if_neg c, if_neg c2, if_pos c3] at k
    exact k
  · have c : p.1.2.2.1 ≠ 14 := c
    have c2 : p.1.2.2.1 ≠ 15 := c2
    have c3 : p.1.2.2.1 ≠ 16 := c3
    have c4 : p.1.2.2.1 = 5 := c4
    rw [if_neg c, if_neg c2, if_neg c3, if_pos c4] at k
    exact k
  · have c : p.1.2.2.1 ≠ 14 := c
    have c2 : p.1.2.2.1 ≠ 15 := c2
    have c3 : p.1.2.2.1 ≠ 16 := c3
    have c4 : p.1.2.2.1 ≠ 5 := c4
    have c5 : p.1.2.2.1 = 1 := c5
    rw [if_neg c, if_neg c2, if_neg c3, if_neg c4, if_pos c5] at k
    exact k
  · have c : p.1.2.2.1 ≠ 14 := c
    have c2 : p.1.2.2.1 ≠ 15 := c2
    have c3 : p.1.2.2.1 ≠ 16 := c3
    have c4 : p.1.2.2.1 ≠ 5 := c4
    have c5 : p.1.2.2.1 ≠ 1 := c5
    rw [if_neg c, if_neg c2, if_neg c3, if_neg c4, if_neg c5] at k
    exact k
theorem r_cmp {q : Nat} {b : Nat → Nat} {n : Nat} {h0 h : Hp} {r : Rs} {Q : Int32 → Hp → Prop} (W : CW q b n h0) (K : ROK b n r) (S : CS q b n h0 h r) (k : ∀ h1, CS q b n h0 h1 (cmR b n r) → Q (nI (cvC (ccR r))) h1) : Reader_comparison h Q := by
  unfold Reader_comparison
  unfold cmR ccR at k
  refine r_take W K S (by omega) (by omega) (fun c h1 S1 => brF (by decide) ?_) (fun c => brT rfl (r_take W K S (by omega) (by omega) (fun c2 h1 S1 => brF (by decide) ?_) (fun c2 => brT rfl (r_expect W K S (by omega) (by omega) (fun h1 S1 => ?_)))))
  · have c : kdR r = 39 := c
    rw [if_pos (Or.inl c), if_pos c] at k
    exact k h1 S1
  · have c : kdR r ≠ 39 := c
    have c2 : kdR r = 40 := c2
    rw [if_pos (Or.inr (Or.inl c2)), if_neg c, if_pos c2] at k
    exact k h1 S1
  · have c : kdR r ≠ 39 := c
    have c2 : kdR r ≠ 40 := c2
    rw [if_neg c, if_neg c2] at k
    unfold exR at S1
    have S1 : CS q b n h0 h1 (if kdR r = 41 then nxR b n r else flR 2 r) := S1
    by_cases c3 : kdR r = 41
    · rw [if_pos (Or.inr (Or.inr c3))] at k
      rw [if_pos c3] at S1
      exact k h1 S1
    · rw [if_neg (by omega)] at k
      rw [if_neg c3] at S1
      exact k h1 S1
