/-! the class reckons a law, all of it -/
theorem rk6 (W : Nat → Int32) (st : List Int32) : rkStep W (nI 3006) st = (match st with | x :: s => some ((1 - x) :: s) | _ => none) := by
  unfold rkStep
  rw [if_neg (by decide), if_pos (by decide)]
  rcases st with _ | ⟨x, t⟩ <;> rfl
theorem rk9 (W : Nat → Int32) (st : List Int32) : rkStep W (nI 3009) st = (match st with | z :: y :: x :: s => some ((if x = 1 then y else z) :: s) | _ => none) := by
  unfold rkStep
  rw [if_neg (by decide), if_neg (by decide), if_pos (by decide)]
  rcases st with _ | ⟨x, _ | ⟨y, _ | ⟨z, t⟩⟩⟩ <;> rfl
theorem rk2 {c : Nat} (W : Nat → Int32) (st : List Int32) (h : bin2 c) : rkStep W (nI c) st = (match st with | y :: x :: s => some (betw (nI c) x y :: s) | _ => none) := by
  unfold rkStep
  rw [if_neg h.1, if_neg h.2.1, if_neg h.2.2]
  rcases st with _ | ⟨x, _ | ⟨y, t⟩⟩ <;> rfl
theorem bin_c {c : Nat} (hc : c = 3000 ∨ c = 3001 ∨ c = 3002 ∨ c = 3003 ∨ c = 3004 ∨ c = 3005 ∨ c = 3007 ∨ c = 3008) : (1000 : Int32) ≤ nI (cvC c) ∧ (1004 : Int32) < nI (cvC c) ∧ ¬ nI (cvC c) = 1018 ∧ ¬ nI (cvC c) = 1019 ∧ bin2 c := by
  unfold bin2
  rcases hc with rfl | rfl | rfl | rfl | rfl | rfl | rfl | rfl <;> decide
theorem tF_13 {q : Nat} (hq : q = 4 ∨ q = 7) (k : Nat) : tF q 13 k = false ∧ tF q q 3 = false ∧ tF q (q + 1) k = false := by
  rcases hq with rfl | rfl <;> exact ⟨rfl, rfl, rfl⟩
theorem k_step {q c : Nat} {h0 h : Hp} {st s : List Int32} {W : Nat → Int32} {J : Hp → Prop} (hq : q = 4 ∨ q = 7) (hc : c < 1005 ∨ (3000 ≤ c ∧ c ≤ 3009)) (hW : ∀ k, k < 5 → gI h0 13 k = W k) (S : SKt q h0 h st) (e : rkStep W (nI c) st = some s) (l1 : st.length ≤ 64) (l2 : s.length ≤ 64) (k : ∀ h1, SKt q h0 h1 s → J h1) : (1000 ≤ nI (cvC c) → (1004 < nI (cvC c) → (¬ nI (cvC c) = 1018 → (¬ nI (cvC c) = 1019 → Law_pop q h (fun r7 h8 => Law_pop q h8 (fun r9 h10 => Law_joined (nI (cvC c)) r9 r7 h10 (fun r11 h12 => Law_push q r11 h12 (fun h13 => J h13))))) ∧ (nI (cvC c) = 1019 → Law_choose q h (fun h14 => J h14))) ∧ (nI (cvC c) = 1018 → Law_pop q h (fun r15 h16 => Law_push q ((1 : Int32) - r15) h16 (fun h17 => J h17)))) ∧ (¬ 1004 < nI (cvC c) → ∀ J66 : Int32 → Hp → Prop, J66 = (fun s18 h19 => Law_push q s18 h19 (fun h20 => J h20)) → (5 ≤ (nI (cvC c) - 1000) → J66 0 h) ∧ (¬ 5 ≤ (nI (cvC c) - 1000) → vp_in (nI (cvC c) - 1000) 5 ∧ J66 (gI h 13 ((nI (cvC c) - 1000)).toNatClampNeg) h))) ∧ (¬ 1000 ≤ nI (cvC c) → Law_push q (nI (cvC c)) h (fun h21 => J h21)) := by
  have fin : ∀ {t : List Int32} {x : Int32} {g : Hp}, s = x :: t → SKt q h0 g t → Law_push q x g (fun h13 => J h13) := fun {t x g} es Sg => by
    subst es
    exact k_push hq Sg (by have l2 : t.length + 1 ≤ 64 := l2; omega) k
  by_cases c1 : c < 1005
  · have cv : cvC c = c := if_pos (by omega)
    rw [cv]
    by_cases c2 : c < 1000
    · have e0 : ¬ (1000 : Int32) ≤ nI c := by
        rw [i_le, nI_toInt (by omega)]
        have : (1000 : Int32).toInt = 1000 := by decide
        omega
      unfold rkStep at e
      rw [if_pos (nI_3k c1), if_neg e0] at e
      exact brF e0 (fin (Option.some.inj e).symm S)
    · have e0 : (1000 : Int32) ≤ nI c := by
        rw [i_le, nI_toInt (by omega)]
        have : (1000 : Int32).toInt = 1000 := by decide
        omega
      have es : nI c - 1000 = nI (c - 1000) := pk_sub (a := c) (b := 1000) (by omega)
      unfold rkStep at e
      rw [if_pos (nI_3k c1), if_pos e0, es, cl (c - 1000)] at e
      refine brT e0 (pk_lt 1004 c (fun z => absurd z (by omega)) (fun _ => ?_))
      rintro J66 rfl
      rw [es]
      refine pk_le 5 (c - 1000) (fun z => absurd z (by omega)) (fun _ => ⟨pk_in (c - 1000) 5 (by omega), ?_⟩)
      rw [cl (c - 1000), S.1.1.1 13 (c - 1000) (tF_13 hq _).1, hW (c - 1000) (by omega)]
      exact fin (Option.some.inj e).symm S
  · by_cases c6 : c = 3006
    · subst c6
      rw [rk6] at e
      cases st with
      | nil => cases e
      | cons x t =>
        have e : some ((1 - x) :: t) = some s := e
        have l1 : t.length + 1 ≤ 64 := l1
        exact brT (by decide) (brT (by decide) (brT' (by decide) (k_pop hq S (by omega) (fun h1 S1 => fin (Option.some.inj e).symm S1))))
    · by_cases c9 : c = 3009
      · subst c9
        rw [rk9] at e
        cases st with
        | nil => cases e
        | cons z t => cases t with
          | nil => cases e
          | cons y t => cases t with
            | nil => cases e
            | cons x t =>
              have e : some ((if x = 1 then y else z) :: t) = some s := e
              have e := (Option.some.inj e).symm
              have l1 : t.length + 1 + 1 + 1 ≤ 64 := l1
              refine brT (by decide) (brT (by decide) (brF' (by decide) (brT' (by decide) ?_)))
              unfold Law_choose
              refine k_pop hq S (by show t.length + 1 + 1 < 64; omega) (fun h1 S1 => k_pop hq S1 (by show t.length + 1 < 64; omega) (fun h2 S2 => k_pop hq S2 (by omega) (fun h3 S3 => ?_)))
              rintro J24 rfl
              refine ⟨fun q1 => ?_, fun q1 => ?_⟩
              · rw [if_neg q1] at e; exact fin e S3
              · rw [if_pos q1] at e; exact fin e S3
      · have hb : c = 3000 ∨ c = 3001 ∨ c = 3002 ∨ c = 3003 ∨ c = 3004 ∨ c = 3005 ∨ c = 3007 ∨ c = 3008 := by omega
        obtain ⟨b1, b2, b3, b4, b5⟩ := bin_c hb
        rw [rk2 W st b5] at e
        cases st with
        | nil => cases e
        | cons y t => cases t with
          | nil => cases e
          | cons x t =>
            have e : some (betw (nI c) x y :: t) = some s := e
            have l1 : t.length + 1 + 1 ≤ 64 := l1
            exact brT b1 (brT b2 (brF' b3 (brF' b4 (k_pop hq S (by show t.length + 1 < 64; omega) (fun h1 S1 => k_pop hq S1 (by omega) (fun h2 S2 => c_joined hb (fin (Option.some.inj e).symm S2)))))))
theorem rkB_hd {W : Nat → Int32} {m : Nat} : ∀ {a st : List Int32}, rkB W m a st → st.length ≤ m
  | [], _, h => h
  | _ :: _, _, h => h.1
theorem c_tell {q : Nat} {h0 : Hp} {Q : Int32 → Hp → Prop} {l : List Nat} {W : Nat → Int32} {v : Int32} (hq : q = 4 ∨ q = 7) (hs : gI h0 q 3 = nI l.length) (hl : l.length ≤ 900) (hc : ∀ i, i < l.length → gI h0 (q + 1) i = nI (cvC (l.getD i 0))) (ho : cdO l) (hW : ∀ k, k < 5 → gI h0 13 k = W k) (hr : rkRun W (cds l) [] = some [v]) (hb : rkB W 64 (cds l) []) (k : ∀ h1, Fq (tF q) h0 h1 → Q v h1) : Law_tell q h0 Q := by
  unfold Law_tell
  rintro _ rfl
  refine pk_loop (σ := Hp × List Int32) (fun n' i s => Law_tell_L7 q Q n' (nI i) s.1) (fun i s => SKt q h0 s.1 s.2 ∧ rkRun W (cds (l.drop i)) s.2 = some [v] ∧ rkB W 64 (cds (l.drop i)) s.2) l.length 0 (sI h0 q 2 0, []) (by omega) ⟨⟨Fq.sI (Fq.rf _ _) (tF_1 q), by rw [sI_s]; rfl, fun j hj => absurd hj (by simp)⟩, hr, hb⟩ (fun n' s J => ?_) (fun n' i s hi J hk => ?_)
  · obtain ⟨g, st⟩ := s
    obtain ⟨S, r1, _⟩ : SKt q h0 g st ∧ rkRun W (cds (l.drop l.length)) st = some [v] ∧ rkB W 64 (cds (l.drop l.length)) st := J
    rw [List.drop_length] at r1
    have r1 : some st = some [v] := r1
    cases r1
    show Law_tell_L7 q Q (n' + 1) (nI l.length) g
    unfold Law_tell_L7
    rw [S.1.1.1 q 3 (tF_13 hq 0).2.1, hs]
    exact pk_le l.length l.length (fun _ => k_pop hq S (by show 0 < 64; omega) (fun h1 S1 => k h1 S1.1)) (fun z => absurd z (by omega))
  · obtain ⟨g, st⟩ := s
    obtain ⟨S, r1, r2⟩ : SKt q h0 g st ∧ rkRun W (cds (l.drop i)) st = some [v] ∧ rkB W 64 (cds (l.drop i)) st := J
    have ed : l.drop i = l.getD i 0 :: l.drop (i + 1) := by
      rw [List.drop_eq_getElem_cons hi, List.getD_eq_getElem?_getD, List.getElem?_eq_getElem hi]
      rfl
    have cm : l.getD i 0 ∈ l := by
      rw [List.getD_eq_getElem?_getD, List.getElem?_eq_getElem hi]
      exact List.getElem_mem hi
    rw [ed] at r1 r2
    have hci := hc i hi
    generalize l.getD i 0 = c at r1 r2 cm ed hci
    have r1 : (rkStep W (nI c) st).bind (rkRun W (cds (l.drop (i + 1)))) = some [v] := r1
    obtain ⟨m1, s1, m2, m3⟩ : st.length ≤ 64 ∧ ∃ s, rkStep W (nI c) st = some s ∧ rkB W 64 (cds (l.drop (i + 1))) s := r2
    rw [m2] at r1
    show Law_tell_L7 q Q (n' + 1) (nI i) g
    unfold Law_tell_L7
    rw [S.1.1.1 q 3 (tF_13 hq 0).2.1, hs, (q_rf hq).1]
    refine pk_le l.length i (fun z => absurd z (by omega)) (fun _ => pk_le 900 i (fun z => absurd z (by omega)) (fun _ => ⟨pk_in i 900 (by omega), ?_⟩))
    rw [cl i, S.1.1.1 (q + 1) i (tF_13 hq i).2.2, hci]
    rintro _ rfl J126 rfl
    refine k_step hq (ho c cm) hW S m2 m1 (rkB_hd m3) (fun h1 S1 => ?_)
    rintro _ rfl
    rw [nI_1 i]
    exact hk (h1, s1) ⟨S1, r1, m3⟩
