/-! the reference's next token -/
theorem o98_7 (o k : Nat) (h : (o = 98 ∧ k = 8) ∨ o = 101) : (fun o k => o == 98 && k == 7 : Nat → Nat → Bool) o k = false := by
  rcases h with ⟨rfl, rfl⟩ | rfl <;> rfl
theorem o98_710 (o k : Nat) (h : (o = 98 ∧ k = 8) ∨ o = 101) : (fun o k => o == 98 && (k == 7 || k == 10) : Nat → Nat → Bool) o k = false := by
  rcases h with ⟨rfl, rfl⟩ | rfl <;> rfl
theorem n_L89 {Q : Hp → Prop} {b : Nat → Nat} {n s : Nat} {h0 : Hp} (B : TpB b n) (T0 : TpM h0 b n) (e6 : gI h0 98 6 = nI s) : ∀ (f i : Nat) (h : Hp), n - i = f → i ≤ n → s ≤ i → Fq (fun o k => o == 98 && k == 7) h0 h → gI h 98 7 = nI i → (∀ h1 h2, Fq (fun o k => o == 98 && k == 7) h0 h1 → gI h1 98 7 = nI (scn isLe b n i) → h2 = sI h1 98 9 (nI (fnd (txt b s (scn isLe b n i)) kws 0)) → Q h2) → M_next_L89 Q (f + 1) h := by
  have B1 := B.1
  have no : ∀ (f i : Nat) (h : Hp), i ≤ n → s ≤ i → Fq (fun o k => o == 98 && k == 7) h0 h → gI h 98 7 = nI i → ¬ (i < n ∧ isLe (b i) = true) → (∀ h1 h2, Fq (fun o k => o == 98 && k == 7) h0 h1 → gI h1 98 7 = nI (scn isLe b n i) → h2 = sI h1 98 9 (nI (fnd (txt b s (scn isLe b n i)) kws 0)) → Q h2) → M_next_L89 Q (f + 1) h := by
    intro f i h hi hs F e c k
    have T := TpM_k T0 F o98_7
    unfold M_next_L89
    rw [e]
    refine m_see B T hi (m_isSm B ?_)
    rw [if_neg c]
    refine brT rfl (m_keyAt B T hi hs ((F.1.1 98 6 rfl).trans e6) e ?_)
    intro h2 hh
    rw [scn_n c] at k
    exact k h h2 F e hh
  intro f
  induction f with
  | zero => intro i h hf hi hs F e k; exact no 0 i h hi hs F e (by omega) k
  | succ f ih =>
    intro i h hf hi hs F e k
    by_cases c : i < n ∧ isLe (b i) = true
    · have T := TpM_k T0 F o98_7
      unfold M_next_L89
      rw [e]
      refine m_see B T hi (m_isSm B ?_)
      rw [if_pos c]
      refine brF (by decide) ?_
      rintro _ rfl
      rw [e, nI_1 i]
      rw [scn_y c.1 c.2] at k
      exact ih (i + 1) _ (by omega) (by omega) (by omega) (Fq.sI F rfl) (by rw [sI_s]) k
    · exact no (f + 1) i h hi hs F e c k
theorem n_L146 {K : Hp → Prop} {b : Nat → Nat} {n s : Nat} {h0 : Hp} (B : TpB b n) (T0 : TpM h0 b n) (e6 : gI h0 98 6 = nI s) : ∀ (f i : Nat) (h : Hp), n - i = f → i ≤ n → s ≤ i → Fq (fun o k => o == 98 && (k == 7 || k == 10)) h0 h → gI h 98 7 = nI i → (i - s ≤ 3 → gI h 98 10 = nI (dgv b s (i - s))) → (∀ h1, Fq (fun o k => o == 98 && (k == 7 || k == 10)) h0 h1 → gI h1 98 7 = nI (scn isDi b n i) → (scn isDi b n i - s ≤ 3 → gI h1 98 10 = nI (dgv b s (scn isDi b n i - s))) → K h1) → M_next_L146 K (f + 1) h := by
  have B1 := B.1
  have no : ∀ (f i : Nat) (h : Hp), i ≤ n → Fq (fun o k => o == 98 && (k == 7 || k == 10)) h0 h → gI h 98 7 = nI i → (i - s ≤ 3 → gI h 98 10 = nI (dgv b s (i - s))) → ¬ (i < n ∧ isDi (b i) = true) → (∀ h1, Fq (fun o k => o == 98 && (k == 7 || k == 10)) h0 h1 → gI h1 98 7 = nI (scn isDi b n i) → (scn isDi b n i - s ≤ 3 → gI h1 98 10 = nI (dgv b s (scn isDi b n i - s))) → K h1) → M_next_L146 K (f + 1) h := by
    intro f i h hi F e v c k
    have T := TpM_k T0 F o98_710
    unfold M_next_L146
    rw [e]
    refine m_see B T hi (m_isDg B ?_)
    rw [if_neg c]
    rw [scn_n c] at k
    exact brT rfl (k h F e v)
  intro f
  induction f with
  | zero => intro i h hf hi hs F e v k; exact no 0 i h hi F e v (by omega) k
  | succ f ih =>
    intro i h hf hi hs F e v k
    by_cases c : i < n ∧ isDi (b i) = true
    · have T := TpM_k T0 F o98_710
      have f6 : gI h 98 6 = nI s := (F.1.1 98 6 rfl).trans e6
      unfold M_next_L146
      rw [e]
      refine m_see B T hi (m_isDg B ?_)
      rw [if_pos c]
      refine brF (by decide) ?_
      rintro J196 rfl
      rw [scn_y c.1 c.2] at k
      rw [f6, e, pk_sub hs]
      refine pk_le 3 (i - s) (fun q => ?_) (fun q => ?_)
      · rintro _ rfl
        rw [e, nI_1 i]
        exact ih (i + 1) _ (by omega) (by omega) (by omega) (Fq.sI F rfl) (by rw [sI_s]) (fun h3 => absurd h3 (by omega)) k
      · refine m_see B T hi ?_
        have bi := isDi_i.mp c.2
        have ev : ((10 : Int32) * (gI h 98 10) + svM b n i) - 48 = nI (dgv b s (i + 1 - s)) := by
          have ed : dgv b s (i + 1 - s) = 10 * dgv b s (i - s) + (b i - 48) := by
            rw [show i + 1 - s = (i - s) + 1 by omega]
            show 10 * dgv b s (i - s) + (b (s + (i - s)) - 48) = _
            rw [show s + (i - s) = i by omega]
          unfold svM
          rw [if_neg (by omega), v (by omega), show (10 : Int32) = nI 10 from rfl, pk_mul, nI_add, show (48 : Int32) = nI 48 from rfl, pk_sub (by omega), ed]
          congr 1
          omega
        rw [ev]
        rintro _ rfl _ rfl
        rw [sI_k (by decide), e, nI_1 i]
        exact ih (i + 1) _ (by omega) (by omega) (by omega) (Fq.sI (Fq.sI F rfl) rfl) (by rw [sI_s]) (fun h3 => by rw [sI_k (by decide), sI_s]) k
    · exact no (f + 1) i h hi F e v c k
theorem n_L254 {Q : Hp → Prop} {b : Nat → Nat} {n s : Nat} {h : Hp} (B : TpB b n) (T : TpM h b n) (hs : s < n) (e6 : gI h 98 6 = nI s) (e9 : gI h 98 9 = 25) (k : ∀ h1, Fq (fun o k => o == 98 && k == 9) h h1 → gI h1 98 9 = nI (fns (b s) sgs 30) → Q h1) : ∃ n30, M_next_L254 Q n30 0 h := by
  have B1 := B.1
  obtain ⟨l34, c34⟩ := sg34
  refine pk_loop (σ := Hp) (fun n' i g => M_next_L254 Q n' (nI i) g) (fun j g => Fq (fun o k => o == 98 && k == 9) h g ∧ ((gI g 98 9 = 25 ∧ ∀ i, i < j → sgs.getD i 0 ≠ b s) ∨ ∃ i, i < j ∧ sgs.getD i 0 = b s ∧ gI g 98 9 = nI (30 + i))) 12 0 h (by omega) ⟨Fq.rf _ _, Or.inl ⟨e9, fun i hi => absurd hi (by omega)⟩⟩ (fun n' g J => ?_) (fun n' i g hi J hk => ?_)
  · unfold M_next_L254
    refine c_len (by omega) ?_
    rw [l34]
    refine pk_le 12 12 (fun _ => k g J.1 ?_) (fun c => absurd c (by omega))
    rcases J.2 with ⟨j1, j2⟩ | ⟨i, j1, j2, j3⟩
    · have : fns (b s) sgs 30 = 25 := by
        rcases fns_r (b s) sgs 30 with f | ⟨f1, f2, _⟩
        · exact f
        · have f2 : fns (b s) sgs 30 < 42 := f2
          exact absurd ((fns_k (c := b s) (fns (b s) sgs 30 - 30) (by omega)).mp (by omega)).symm (j2 _ (by omega))
      rw [this, j1]; rfl
    · rw [(fns_k (c := b s) i j1).mpr j2.symm]; exact j3
  · have f6 : gI g 98 6 = nI s := (J.1.1.1 98 6 rfl).trans e6
    have Tg : TpM g b n := TpM_k T J.1 (fun o k hh => by rcases hh with ⟨rfl, rfl⟩ | rfl <;> rfl)
    have cl1 := (ch_t (o := 34) (i := i) (by omega) (by omega)).2
    have bs := B.2 s
    unfold M_next_L254
    refine c_len (by omega) ?_
    rw [l34]
    refine pk_le 12 i (fun c => absurd c (by omega)) (fun _ => ?_)
    rw [f6]
    refine m_see B Tg (by omega) (c_charAt (by omega) (by omega) ?_)
    rintro J288 rfl
    have es : svM b n s = nI (b s) := if_neg (by omega)
    rw [es, nI_eq (by omega) (by omega), c34 i hi]
    refine ⟨fun d => ?_, fun d => ?_⟩
    · rintro _ rfl
      rw [nI_1 i]
      refine hk g ⟨J.1, ?_⟩
      rcases J.2 with ⟨j1, j2⟩ | ⟨m, j1, j2, j3⟩
      · refine Or.inl ⟨j1, fun m hm => ?_⟩
        by_cases q : m = i
        · subst q; exact fun z => d z.symm
        · exact j2 m (by omega)
      · exact Or.inr ⟨m, by omega, j2, j3⟩
    · rintro _ rfl _ rfl
      rw [nI_1 i]
      refine hk _ ⟨Fq.sI J.1 rfl, Or.inr ⟨i, by omega, d.symm, ?_⟩⟩
      rw [sI_s, show (30 : Int32) = nI 30 from rfl, nI_add]
theorem m_next {h0 : Hp} {Q : Hp → Prop} {b : Nat → Nat} {n pos : Nat} (B : TpB b n) (T0 : TpM h0 b n) (e0 : gI h0 98 7 = nI pos) (hp : pos ≤ n) (k : ∀ h1, Fq o98t h0 h1 → MT h1 (tok b n pos) → Q h1) : M_next h0 Q := by
  have B1 := B.1
  unfold M_next
  rw [e0]
  rintro _ rfl
  refine ⟨n - pos + 1, n_L8 B T0 (n - pos) pos _ rfl hp (Fq.sI (Fq.rf _ _) rfl) (by rw [sI_s]) (fun h1 F1 e1 => ?_)⟩
  obtain ⟨s1, s2, _, s4⟩ := scn_ge (P := isSp) (b := b) (n := n) (i := pos) rfl
  have s2 := s2 hp
  unfold tok at k
  generalize scn isSp b n pos = s at s1 s2 s4 e1 k
  rintro _ rfl
  rw [e1]
  have F2 : Fq o98t h0 (sI h1 98 7 (nI s)) := Fq.sI F1 rfl
  have T2 := TpM_k T0 F2 o98_T
  have e26 : gI (sI h1 98 7 (nI s)) 98 6 = nI s := by rw [sI_k (by decide)]; exact e1
  have e27 : gI (sI h1 98 7 (nI s)) 98 7 = nI s := by rw [sI_s]
  generalize sI h1 98 7 (nI s) = h2 at F2 T2 e26 e27
  rw [e26, T2.1]
  have mo7 : ∀ o k, o98t o k = false → (fun o k => o == 98 && k == 7 : Nat → Nat → Bool) o k = false := fun o k hh => by
    simp only [o98t, Bool.and_eq_false_iff, Bool.or_eq_false_iff] at hh ⊢
    rcases hh with z | z
    · exact Or.inl z
    · exact Or.inr z.1.1.2
  have mo9 : ∀ o k, o98t o k = false → (fun o k => o == 98 && k == 9 : Nat → Nat → Bool) o k = false := fun o k hh => by
    simp only [o98t, Bool.and_eq_false_iff, Bool.or_eq_false_iff] at hh ⊢
    rcases hh with z | z
    · exact Or.inl z
    · exact Or.inr z.1.2
  have mo710 : ∀ o k, o98t o k = false → (fun o k => o == 98 && (k == 7 || k == 10) : Nat → Nat → Bool) o k = false := fun o k hh => by
    simp only [o98t, Bool.and_eq_false_iff, Bool.or_eq_false_iff] at hh ⊢
    rcases hh with z | z
    · exact Or.inl z
    · exact Or.inr ⟨z.1.1.2, z.2⟩
  refine pk_lt s n (fun c => m_see B T2 (by omega) (m_isSm B ?_)) (fun c => ?_)
  · rw [if_neg (by omega)] at k
    by_cases l : isLe (b s) = true
    · rw [if_pos l] at k
      rw [if_pos ⟨c, l⟩]
      refine brF (by decide) ⟨n - s + 1, n_L89 (s := s) B T2 e26 (n - s) s _ rfl s2 (Nat.le_refl s) (Fq.rf _ _) e27 (fun h3 h4 F3 e3 hh => ?_)⟩
      subst hh
      refine k _ (Fq.sI (F2.tr (F3.mo mo7)) rfl) ⟨?_, ?_, by rw [sI_s], fun z => ?_⟩
      · rw [sI_k (by decide), F3.1.1 98 6 rfl]; exact e26
      · rw [sI_k (by decide)]; exact e3
      · have z : fnd (txt b s (scn isLe b n s)) kws 0 = 23 := z
        rcases fnd_r (txt b s (scn isLe b n s)) kws 0 with f | ⟨_, f2⟩
        · omega
        · have f2 : fnd (txt b s (scn isLe b n s)) kws 0 < 20 := f2
          omega
    · rw [if_neg l] at k
      rw [if_neg (fun z => l z.2)]
      refine brT rfl ?_
      rw [e26]
      refine m_see B T2 (by omega) (m_isDg B ?_)
      by_cases d : isDi (b s) = true
      · rw [if_pos d] at k
        rw [if_pos ⟨c, d⟩]
        refine brF (by decide) ?_
        rintro _ rfl
        have F3 : Fq o98t h0 (sI h2 98 10 0) := Fq.sI F2 rfl
        have T3 := TpM_k T0 F3 o98_T
        refine ⟨n - s + 1, n_L146 (s := s) B T3 (by rw [sI_k (by decide)]; exact e26) (n - s) s _ rfl s2 (Nat.le_refl s) (Fq.rf _ _) (by rw [sI_k (by decide)]; exact e27) (fun _ => by rw [sI_s, Nat.sub_self]; rfl) (fun h4 F4 e4 v4 => ?_)⟩
        have e46 : gI h4 98 6 = nI s := by rw [F4.1.1 98 6 rfl, sI_k (by decide)]; exact e26
        obtain ⟨g1, g2, _, _⟩ := scn_ge (P := isDi) (b := b) (n := n) (i := s) rfl
        have g2 := g2 s2
        generalize scn isDi b n s = e at g1 g2 e4 v4 k
        rintro J230 rfl
        rw [e4, e46, pk_sub g1]
        refine pk_le (e - s) 3 (fun q => ?_) (fun q => ?_)
        · rintro _ rfl
          rw [if_pos q] at k
          exact k _ (Fq.sI (F3.tr (F4.mo mo710)) rfl) ⟨by rw [sI_k (by decide)]; exact e46, by rw [sI_k (by decide)]; exact e4, by rw [sI_s]; rfl, fun _ => by rw [sI_k (by decide)]; exact v4 q⟩
        · rintro _ rfl
          rw [if_neg (by omega)] at k
          exact k _ (Fq.sI (F3.tr (F4.mo mo710)) rfl) ⟨by rw [sI_k (by decide)]; exact e46, by rw [sI_k (by decide)]; exact e4, by rw [sI_s]; rfl, fun z => absurd (show (25 : Nat) = 23 from z) (by decide)⟩
      · rw [if_neg d] at k
        rw [if_neg (fun z => d z.2)]
        refine brT rfl ?_
        rw [e27, nI_1 s]
        rintro _ rfl _ rfl
        have F3 : Fq o98t h0 (sI (sI h2 98 7 (nI (s + 1))) 98 9 25) := Fq.sI (Fq.sI F2 rfl) rfl
        have T3 := TpM_k T0 F3 o98_T
        refine n_L254 (s := s) B T3 c (by rw [sI_k (by decide), sI_k (by decide)]; exact e26) (by rw [sI_s]) (fun h4 F4 e4 => k h4 (F3.tr (F4.mo mo9)) ⟨?_, ?_, e4, fun z => ?_⟩)
        · rw [F4.1.1 98 6 rfl, sI_k (by decide), sI_k (by decide)]; exact e26
        · rw [F4.1.1 98 7 rfl, sI_k (by decide), sI_s]
        · have z : fns (b s) sgs 30 = 23 := z
          rcases fns_r (b s) sgs 30 with f | ⟨f1, _⟩ <;> omega
  · rw [if_pos (by omega)] at k
    rintro _ rfl
    exact k _ (Fq.sI F2 rfl) ⟨by rw [sI_k (by decide)]; exact e26, by rw [sI_k (by decide)]; exact e27, by rw [sI_s]; rfl, fun z => absurd (show (24 : Nat) = 23 from z) (by decide)⟩
