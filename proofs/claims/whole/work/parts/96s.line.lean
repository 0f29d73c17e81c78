/-! a line of the text, read by the class -/
def TF : Nat → Nat → Bool := fun o k => plF o k || rdF o k || cF 7 o k || (o == 2 && k == 7) || (o == 7 && k == 3)
theorem TF_pl (o k : Nat) (h : TF o k = false) : plF o k = false := by
  simp only [TF, Bool.or_eq_false_iff] at h
  exact h.1.1.1.1
theorem TF_rd (o k : Nat) (h : TF o k = false) : rdF o k = false := by
  simp only [TF, Bool.or_eq_false_iff] at h
  exact h.1.1.1.2
theorem TF_7 (o k : Nat) (h : TF o k = false) : cF 7 o k = false := by
  simp only [TF, Bool.or_eq_false_iff] at h
  exact h.1.1.2
theorem TF_4 (o k : Nat) (h : TF o k = false) : cF 4 o k = false := plF_c o k (TF_pl o k h)
theorem TF_b (q o k : Nat) (hq : q = 4 ∨ q = 7) (h : TF o k = false) : (cF 4 o k || (o == q && k == 3)) = false := by
  have h4 := TF_4 o k h
  rw [h4]
  rcases hq with rfl | rfl
  · simp only [cF, Bool.or_eq_false_iff] at h4
    exact h4.1.2
  · simp only [TF, Bool.or_eq_false_iff] at h
    exact h.2
def CI (b : Nat → Nat) (n : Nat) (h : Hp) (st : Tx) : Prop := TpC h b n ∧ CSr 4 b n h (puC st.2.2.2.1.1 st.1) ∧ ((∃ p, st.1 = .inl p) → (gI h 2 4 = nI st.2.1.1 ∧ gI h 2 5 = nI st.2.1.2.1 ∧ gI h 2 6 = nI st.2.1.2.2 ∧ gI h 2 7 = nI st.2.2.2.2.2) ∧ (∀ i, i < st.2.1.2.2 → gI h 10 i = (st.2.2.1 i).1 ∧ gI h 11 i = (st.2.2.1 i).2.1 ∧ gI h 12 i = (st.2.2.1 i).2.2) ∧ gI h 7 3 = nI st.2.2.2.1.2.length ∧ ∀ i, i < st.2.2.2.1.2.length → gI h 8 i = nI (cvC (st.2.2.2.1.2.getD i 0)))
theorem CI_k {b : Nat → Nat} {n : Nat} {h h1 : Hp} {r r1 : Rs} {A : (Nat × Nat × Nat) × (Nat → Int32 × Int32 × Int32) × (List Nat × List Nat) × Nat × Nat} (C : CI b n h (r, A)) (F : Fq (cF 4) h h1) (S : CSr 4 b n h1 (puC A.2.2.1.1 r1)) (ok : (∃ p, r1 = .inl p) → ∃ p, r = .inl p) : CI b n h1 (r1, A) := by
  obtain ⟨T, _, C2⟩ := C
  refine ⟨TpC_k T F (cF_T (Or.inl rfl)), S, fun z => ?_⟩
  obtain ⟨⟨a1, a2, a3, a4⟩, a5, a6, a7⟩ := C2 (ok z)
  exact ⟨⟨(F.1.1 2 4 rfl).trans a1, (F.1.1 2 5 rfl).trans a2, (F.1.1 2 6 rfl).trans a3, (F.1.1 2 7 rfl).trans a4⟩, fun i hi => ⟨(F.1.1 10 i rfl).trans (a5 i hi).1, (F.1.1 11 i rfl).trans (a5 i hi).2.1, (F.1.1 12 i rfl).trans (a5 i hi).2.2⟩, (F.1.1 7 3 rfl).trans a6, fun i hi => (F.1.1 8 i rfl).trans (a7 i hi)⟩
theorem si_pu {b : Nat → Nat} {n : Nat} {st : Tx} (I : SI b n st) : ROK b n (puC st.2.2.2.1.1 st.1) := by
  obtain ⟨r, ⟨np, mi, nr⟩, rd, ⟨L0, L1⟩, s, c⟩ := st
  obtain ⟨K, z, I2⟩ := I
  rcases r with p | y
  · obtain ⟨_, ⟨a2, a4⟩, _⟩ := I2 ⟨p, rfl⟩
    have a2 : L0.length + L1.length ≤ s := a2
    have a4 : s ≤ p.1.1 := a4
    exact ⟨K.1, show L0.length ≤ p.1.1 by omega⟩
  · exact K
theorem r_close {b : Nat → Nat} {n : Nat} {h : Hp} {st : Tx} {Q : Hp → Prop} (B : TpB b n) (C : CI b n h st) (I : SI b n st) (k : ∀ h1, Fp TF h h1 → CI b n h1 (exS b n st) → Q h1) : Reader_expect 3 h Q := by
  have W : CW 4 b n h := ⟨B, C.1, Or.inl rfl⟩
  refine r_expect W (si_pu I) (⟨Fq.rf _ _, C.2.1⟩ : CS 4 b n h h _) (by omega) (by omega) (fun h1 S1 => k h1 (S1.1.1.mo TF_4) (CI_k (r := st.1) C S1.1 ?_ (fun z => ?_)))
  · rw [puC_ex]; exact S1.2
  · obtain ⟨p1, z⟩ := z
    obtain ⟨p0, e0, _⟩ := ex_in z
    exact ⟨p0, e0⟩
theorem CSr_74 {b : Nat → Nat} {n : Nat} {h4 h5 : Hp} {r2 r1 : Rs} {L0 : List Nat} (B : TpB b n) (K : ROK b n r2) (L : ∀ p, r2 = .inl p → p.2 = L0) (bd : BdR r2 r1) (C : CSr 4 b n h4 r2) (S : CS 7 b n h4 h5 r1) : CSr 4 b n h5 (puC L0 (cl0 r1)) := by
  obtain ⟨F, S⟩ := S
  have B1 := B.1
  have l := rok_le K
  have e4 : gI h5 4 3 = gI h4 4 3 := F.1.1 4 3 rfl
  have e5 : ∀ i, gI h5 5 i = gI h4 5 i := fun i => F.1.1 5 i rfl
  rcases r1 with p1 | y1
  · rcases r2 with p2 | y2
    · have e : p2.2 = L0 := L p2 rfl
      refine ⟨S.1, S.2.1, ?_, fun i hi => ?_, S.2.2.2.2⟩
      · show gI h5 4 3 = nI L0.length
        rw [e4, ← e]; exact C.2.2.1
      · have hi : i < L0.length := hi
        show gI h5 5 i = nI (cvC (L0.getD i 0))
        rw [e5, ← e]
        exact C.2.2.2.1 i (by rw [e]; exact hi)
    · cases bd y2 rfl
  · obtain ⟨s1, s2, m, t, s3, s4, s5, s6⟩ := S
    rcases r2 with p2 | y2
    · have l1 : p2.2.length ≤ p2.1.1 := l.1
      have l2 : p2.1.1 ≤ n := l.2
      exact ⟨s1, s2, p2.2.length, t, by omega, by rw [e4]; exact C.2.2.1, s5, s6⟩
    · obtain ⟨_, _, m2, t2, c3, c4, _⟩ := C
      exact ⟨s1, s2, m2, t, c3, by rw [e4]; exact c4, s5, s6⟩
theorem r_line {b : Nat → Nat} {n : Nat} {h : Hp} {st : Tx} {Q : Hp → Prop} (B : TpB b n) (C : CI b n h st) (I : SI b n st) (ok : ∃ p, st.1 = .inl p) (k : ∀ h1 st1, LN b n st st1 → Fp TF h h1 → CI b n h1 (exS b n st1) → Q h1) : Reader_readLine h Q := by
  have go : ∀ h1 st1, LN b n st st1 → Fp TF h h1 → CI b n h1 st1 → Reader_expect 3 h1 (fun h4 => Q h4) := fun h1 st1 l F C1 => r_close B C1 (si_ln I ok l).1 (fun h2 F2 C2 => k h2 st1 l (F.tr F2) C2)
  have K := si_pu I
  have IK := I.1
  have z0 := I.2.1
  obtain ⟨r, ⟨np, mi, nr⟩, rd, ⟨L0, L1⟩, s, c⟩ := st
  obtain ⟨p, hp⟩ := ok
  have hp : r = .inl p := hp
  subst hp
  have CC := C
  obtain ⟨T, S, C2⟩ := C
  obtain ⟨⟨a1, a2, a3, a4⟩, a5, a6, a7⟩ := C2 ⟨p, rfl⟩
  obtain ⟨⟨i1, i2, i3⟩, ⟨i4, i6⟩, i7, i8, i9⟩ := I.2.2 ⟨p, rfl⟩
  have a1 : gI h 2 4 = nI np := a1
  have a2 : gI h 2 5 = nI mi := a2
  have a3 : gI h 2 6 = nI nr := a3
  have a4 : gI h 2 7 = nI c := a4
  have K : ROK b n (.inl (p.1, L0)) := K
  have z0 : (Sum.inl (p.1, []) : Rs) = .inl p := z0
  have W : CW 4 b n h := ⟨B, T, Or.inl rfl⟩
  have S0 : CS 4 b n h h (.inl (p.1, L0)) := ⟨Fq.rf _ _, S⟩
  unfold Reader_readLine
  refine r_is W K S0 (by omega) (by omega) (fun z => ?_) (fun z => ?_)
  · have z : p.1.2.2.1 = 2 := z
    rintro J93 rfl
    refine brF (by decide) (r_place B T K S a1 i1 a2 (fun h1 F1 S1 v1 => ?_))
    refine go h1 _ (Or.inl ⟨z, rfl⟩) (F1.1.mo TF_pl) ⟨TpC_k T F1 (fun o k hh => by rcases hh with ⟨rfl, rfl⟩ | rfl <;> rfl), ?_, fun ok1 => ?_⟩
    · show CSr 4 b n h1 (puC L0 (plR b n np (.inl p)))
      rw [(puC_pl L0 b n np _).1]; exact S1
    · obtain ⟨w1, w2⟩ := v1 (pl_in (b := b) (n := n) (np := np) (r := .inl p) ok1)
      refine ⟨⟨w1, ?_, (F1.1.1 2 6 rfl).trans a3, (F1.1.1 2 7 rfl).trans a4⟩, fun i hi => ⟨(F1.1.1 10 i rfl).trans (a5 i hi).1, (F1.1.1 11 i rfl).trans (a5 i hi).2.1, (F1.1.1 12 i rfl).trans (a5 i hi).2.2⟩, (F1.1.1 7 3 rfl).trans a6, fun i hi => (F1.1.1 8 i rfl).trans (a7 i hi)⟩
      exact w2
  · have z : p.1.2.2.1 ≠ 2 := z
    rintro J93 rfl
    refine brT rfl (r_is W K S0 (by omega) (by omega) (fun z2 => ?_) (fun z2 => ?_))
    · have z2 : p.1.2.2.1 = 5 := z2
      refine brF (by decide) (r_road B T K S a1 i1 a3 i2 (fun h1 F1 S1 v1 => ?_))
      refine go h1 _ (Or.inr (Or.inl ⟨z2, rfl⟩)) (F1.1.mo TF_rd) ⟨TpC_k T F1 (fun o k hh => by rcases hh with ⟨rfl, rfl⟩ | rfl <;> rfl), ?_, fun ok1 => ?_⟩
      · show CSr 4 b n h1 (puC L0 (rdR b n np nr (.inl p)))
        rw [(puC_rd L0 b n np nr _).1]; exact S1
      · have ok1 : ∃ p1, rdR b n np nr (.inl p) = .inl p1 := ok1
        have ok2 : ∃ p1, rdR b n np nr (.inl (p.1, L0)) = .inl p1 := by
          obtain ⟨p1, e1⟩ := ok1
          have := (puC_rd L0 b n np nr (.inl p)).1
          rw [e1] at this
          exact ⟨_, this.symm⟩
        obtain ⟨w1, ⟨w2, w3, w4⟩, w5⟩ := v1 ok2
        refine ⟨⟨(F1.1.1 2 4 rfl).trans a1, (F1.1.1 2 5 rfl).trans a2, w1, (F1.1.1 2 7 rfl).trans a4⟩, fun i hi => ?_, (F1.1.1 7 3 rfl).trans a6, fun i hi => (F1.1.1 8 i rfl).trans (a7 i hi)⟩
        have hi : i < nr + 1 := hi
        show gI h1 10 i = (rdS b n np nr (.inl p) rd i).1 ∧ gI h1 11 i = (rdS b n np nr (.inl p) rd i).2.1 ∧ gI h1 12 i = (rdS b n np nr (.inl p) rd i).2.2
        unfold rdS
        by_cases e : i = nr
        · subst e
          rw [if_pos rfl]
          refine ⟨w2, ?_, ?_⟩
          · rw [w3]
            show nI (vlR (nmR b n np (nxR b n (puC L0 (.inl p))))) = nI (vlR (nmR b n np (nxR b n (.inl p))))
            rw [← puC_nx, ← puC_nm, puC_vl]
          · rw [w4]
            exact (puC_rd L0 b n np 0 (.inl p)).2
        · rw [if_neg e]
          obtain ⟨u1, u2, u3⟩ := w5 i e
          obtain ⟨x1, x2, x3⟩ := a5 i (show i < nr by omega)
          exact ⟨u1.trans x1, u2.trans x2, u3.trans x3⟩
    · have z2 : p.1.2.2.1 ≠ 5 := z2
      refine brT rfl (r_take W K S0 (by omega) (by omega) (fun z3 h1 S1 => ?_) (fun z3 => ?_))
      · have z3 : p.1.2.2.1 = 8 := z3
        refine brF (by decide) ?_
        refine r_law (q := 4) (w := 3) (Or.inl rfl) (Or.inl rfl) B (CS_T W S1) (nx_iv K).1 S1.2 (fun h4 h5 r1 F4 T4 C4 R1 S5 => ?_)
        have er : cl0 (exR b n 31 (nxR b n (.inl (p.1, L0)))) = exR b n 31 (nxR b n (.inl p)) := by
          rw [cl0_ex, cl0_nx]
          show exR b n 31 (nxR b n (.inl (p.1, []))) = _
          rw [z0]
        rw [er] at R1
        have fr : ∀ o k, (cF 4 o k || (o == 4 && k == 3)) = false → gI h5 o k = gI h o k := fun o k hh => by
          have h4f : cF 4 o k = false := by
            simp only [Bool.or_eq_false_iff] at hh
            exact hh.1
          rw [S5.1.1.1 o k h4f, F4.1 o k hh, S1.1.1.1 o k h4f]
        refine go h5 _ (Or.inr (Or.inr (Or.inl ⟨z3, r1, R1, rfl⟩))) (((S1.1.1.mo TF_4).tr (F4.mo (fun o k hh => TF_b 4 o k (Or.inl rfl) hh))).tr (S5.1.1.mo TF_4)) ⟨CS_T ⟨B, T4, Or.inl rfl⟩ S5, ?_, fun ok1 => ⟨⟨(fr 2 4 rfl).trans a1, (fr 2 5 rfl).trans a2, (fr 2 6 rfl).trans a3, (fr 2 7 rfl).trans a4⟩, fun i hi => ⟨(fr 10 i rfl).trans (a5 i hi).1, (fr 11 i rfl).trans (a5 i hi).2.1, (fr 12 i rfl).trans (a5 i hi).2.2⟩, (fr 7 3 rfl).trans a6, fun i hi => (fr 8 i rfl).trans (a7 i hi)⟩⟩
        show CSr 4 b n h5 (puC (cdR r1) (cl0 r1))
        rw [puC_cd]; exact S5.2
      · have z3 : p.1.2.2.1 ≠ 8 := z3
        refine brT rfl (r_take W K S0 (by omega) (by omega) (fun z4 h1 S1 => ?_) (fun z4 => ?_))
        · have z4 : p.1.2.2.1 = 9 := z4
          refine brF (by decide) ?_
          refine r_law (q := 7) (w := 5) (Or.inr rfl) (Or.inr rfl) B (CS_T W S1) (nx_iv K).1 S1.2 (fun h4 h5 r1 F4 T4 C4 R1 S5 => ?_)
          have er : cl0 (exR b n 31 (nxR b n (.inl (p.1, L0)))) = exR b n 31 (nxR b n (.inl p)) := by
            rw [cl0_ex, cl0_nx]
            show exR b n 31 (nxR b n (.inl (p.1, []))) = _
            rw [z0]
          have C4 : CSr 4 b n h4 (exR b n 31 (nxR b n (.inl (p.1, L0)))) := C4 rfl
          have bd : BdR (exR b n 31 (nxR b n (.inl (p.1, L0)))) r1 := by
            intro x hx
            refine (rl_iv R1).1 x ?_
            rw [hx]; rfl
          have CN := CSr_74 (L0 := L0) B (ex_iv (k := 31) (nx_iv K).1).1 (fun p2 e2 => by
            obtain ⟨p3, e3, f3⟩ := ex_in e2
            obtain ⟨p4, e4, f4⟩ := nx_in e3
            rw [f3, f4]
            cases e4; rfl) bd C4 S5
          rw [er] at R1
          have fr : ∀ o k, (cF 4 o k || (o == 7 && k == 3)) = false → cF 7 o k = false → gI h5 o k = gI h o k := fun o k hh h7 => by
            have h4f : cF 4 o k = false := by
              simp only [Bool.or_eq_false_iff] at hh
              exact hh.1
            rw [S5.1.1.1 o k h7, F4.1 o k hh, S1.1.1.1 o k h4f]
          refine go h5 _ (Or.inr (Or.inr (Or.inr (Or.inl ⟨z4, r1, R1, rfl⟩)))) (((S1.1.1.mo TF_4).tr (F4.mo (fun o k hh => TF_b 7 o k (Or.inr rfl) hh))).tr (S5.1.1.mo TF_7)) ⟨CS_T ⟨B, T4, Or.inr rfl⟩ S5, CN, fun ok1 => ⟨⟨(fr 2 4 rfl rfl).trans a1, (fr 2 5 rfl rfl).trans a2, (fr 2 6 rfl rfl).trans a3, (fr 2 7 rfl rfl).trans a4⟩, fun i hi => ⟨(fr 10 i rfl rfl).trans (a5 i hi).1, (fr 11 i rfl rfl).trans (a5 i hi).2.1, (fr 12 i rfl rfl).trans (a5 i hi).2.2⟩, ?_⟩⟩
          obtain ⟨p1, e1⟩ := cl0_in (r := r1) ok1
          subst e1
          exact ⟨S5.2.2.2.1, S5.2.2.2.2.1⟩
        · have z4 : p.1.2.2.1 ≠ 9 := z4
          refine brT rfl (r_refuse (kk := 2) W K S0 rfl (fun h1 S1 => ?_))
          refine go h1 _ (Or.inr (Or.inr (Or.inr (Or.inr ⟨⟨z, z2, z3, z4⟩, rfl⟩)))) (S1.1.1.mo TF_4) (CI_k (r := .inl p) CC S1.1 ?_ (fun q => absurd q fl_no))
          show CSr 4 b n h1 (puC L0 (flR 2 (.inl p)))
          rw [puC_fl]; exact S1.2
theorem r_text {b : Nat → Nat} {n : Nat} {Q : Hp → Prop} (B : TpB b n) : ∀ (m c : Nat) (h : Hp) (st : Tx), n - lvR n st.1 ≤ m → c ≤ lvR n st.1 → CI b n h st → SI b n st → (∀ h1 st1, TX b n st st1 → Fp TF h h1 → CI b n h1 st1 → Q h1) → Reader_readText_L85 Q (m + 1) (nI c) h := by
  have B1 := B.1
  intro m
  induction m with
  | zero =>
    intro c h st hm hc C I k
    have l := rok_le I.1
    have e := kd_end I.1 (by omega)
    have fin := k h st (tx_0 e) (Fp.rf _ _) C
    unfold Reader_readText_L85
    refine ⟨fun _ => fin, fun _ => ⟨fun _ => fin, fun q => ?_⟩⟩
    have S := C.2.1
    rcases hr : st.1 with p | y
    · rw [hr] at e S
      have K := I.1
      rw [hr] at K
      have e : p.1.2.2.1 = 24 := by
        rcases e with e | e
        · exact e
        · have := tk_lt K.1
          have e : p.1.2.2.1 = 99 := e
          omega
      have S : gI h 2 13 = 0 ∧ CT h p.1 ∧ _ := S
      unfold Tokens_isEnd
      refine brT' ?_ (brF' (by decide) fin)
      rw [S.2.1.2.2.1, e]; rfl
    · rw [hr] at S
      have K := I.1
      rw [hr] at K
      have S : gI h 2 13 = nI y.1 ∧ _ := S
      exact absurd (S.1.symm.trans q) (w_ne K)
  | succ m ih =>
    intro c h st hm hc C I k
    have l := rok_le I.1
    have S := C.2.1
    have K := I.1
    unfold Reader_readText_L85
    refine pk_le 900 c (fun z => k h st (tx_0 (kd_end I.1 (by omega))) (Fp.rf _ _) C) (fun z => ?_)
    rcases hr : st.1 with p | y
    · rw [hr] at S K
      have S : gI h 2 13 = 0 ∧ CT h p.1 ∧ _ := S
      refine brT' S.1 ?_
      unfold Tokens_isEnd
      have e0 : gI h 3 3 = 0 ↔ p.1.2.2.1 = 24 := by
        rw [S.2.1.2.2.1, ← (ckd1 p.1.2.2.1).2.2]
        exact nI_eq (a := ckd p.1.2.2.1) (b := 0) (by have := ckd_lt p.1.2.2.1; omega) (by omega)
      rw [e0]
      refine ⟨fun e => ?_, fun e => brF' (by decide) (k h st (tx_0 (Or.inl (by rw [hr]; exact e))) (Fp.rf _ _) C)⟩
      have k24 : kdR st.1 ≠ 24 := by rw [hr]; exact e
      have k99 : kdR st.1 ≠ 99 := by
        rw [hr]
        have := tk_lt K.1
        show p.1.2.2.1 ≠ 99
        omega
      refine brT' rfl (r_line B C I ⟨p, hr⟩ (fun h1 st1 L1 F1 C1 => ?_))
      intro h19 g19
      rintro _ rfl
      rw [nI_1 c]
      obtain ⟨J1, u1⟩ := ln_lt I ⟨p, hr⟩ k24 L1
      have F19 : Fp TF h h19 := by rw [g19]; exact Fp.sI F1 rfl
      refine ih (c + 1) h19 (nlS b n st1) (by show n - lvR n (exR b n 30 st1.1) ≤ m; omega) (by show c + 1 ≤ lvR n (exR b n 30 st1.1); omega) ?_ J1 (fun h2 st2 T2 F2 C2 => k h2 st2 (tx_1 k24 k99 L1 T2) (F19.tr F2) C2)
      obtain ⟨T1, S1, D1⟩ := C1
      refine ⟨?_, ?_, fun ok1 => ?_⟩
      · rw [g19]; exact TpC_o T1 (by decide) (by decide)
      · rw [g19]; exact CSr_2 (Or.inl rfl) S1 (by decide) (by decide)
      · obtain ⟨⟨a1, a2, a3, a4⟩, a5, a6, a7⟩ := D1 ok1
        have q : ∀ o k, o ≠ 2 → gI h19 o k = gI h1 o k := fun o k ho => by rw [g19, sI_o ho]
        have q2 : ∀ k, k ≠ 7 → gI h19 2 k = gI h1 2 k := fun k hk => by rw [g19, sI_k hk]
        refine ⟨⟨(q2 4 (by decide)).trans a1, (q2 5 (by decide)).trans a2, (q2 6 (by decide)).trans a3, ?_⟩, fun i hi => ⟨(q 10 i (by decide)).trans (a5 i hi).1, (q 11 i (by decide)).trans (a5 i hi).2.1, (q 12 i (by decide)).trans (a5 i hi).2.2⟩, (q 7 3 (by decide)).trans a6, fun i hi => (q 8 i (by decide)).trans (a7 i hi)⟩
        rw [g19, sI_s, a4]
        exact nI_1 _
    · rw [hr] at S K
      have S : gI h 2 13 = nI y.1 ∧ _ := S
      exact brF' (fun q => w_ne K (S.1.symm.trans q)) (k h st (tx_0 (Or.inr (by rw [hr]; rfl))) (Fp.rf _ _) C)
