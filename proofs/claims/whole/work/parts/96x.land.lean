/-! land -/
theorem HF_hi {o k : Nat} (h : 13 ≤ o) : HF o k = false := by
  have t : ∀ c, c < 13 → (o == c) = false := fun c hc => by
    simp only [beq_eq_false_iff_ne]; omega
  simp only [HF, TF, plF, rdF, cF, t 2 (by omega), t 3 (by omega), t 4 (by omega), t (4 + 1) (by omega), t 7 (by omega), t (7 + 1) (by omega), t 10 (by omega), t 11 (by omega), t 12 (by omega), Bool.false_and, Bool.or_false]
theorem xS_hi {o k : Nat} (h : 20 ≤ o) : xS o k = false := by
  have t : ∀ c, c < 20 → (o == c) = false := fun c hc => by
    simp only [beq_eq_false_iff_ne]; omega
  simp only [xS, sF, tF, t 4 (by omega), t (4 + 2) (by omega), t 7 (by omega), t (7 + 2) (by omega), t 13 (by omega), t 14 (by omega), t 15 (by omega), t 16 (by omega), t 17 (by omega), t 18 (by omega), t 19 (by omega), Bool.false_and, Bool.or_false]
def SB : Nat → Nat → Bool := fun o k => o == 20 || o == 21 || (o == 24 && k == 2) || (o == 80 && k == 0)
def sdW (w : Int32) : Row := fun j => if j = 3 then w else if 4 ≤ j then -1 else 0
theorem c_fresh {h : Hp} {w : Int32} {Q : Int32 → Hp → Prop} (k : ∀ h1, Fp SB h h1 → StdR h1 20 21 (sdW w) → gI h1 24 2 = 0 → gI h1 80 0 = -1 → Q (gI h 14 3) h1) : Stand_begin 20 w h (fun h4 => Past_forget h4 (fun h5 => Game_forget h5 (fun h6 => Q (gI h6 14 3) h6))) := by
  have al : alen 21 = 8 := by decide
  unfold Stand_begin
  intro h1 g1 h2 g2 h3 g3 h4 g4
  rw [show rf 20 4 = 21 from by decide]
  have F4 : Fp SB h h4 := by
    rw [g4, g3, g2, g1]
    exact ((((Fp.rf SB h).sI rfl).sJ rfl).sI rfl).sI rfl
  refine c_fill al (by decide) (fun h5 F5 f5 => ?_)
  unfold Past_forget
  intro h6 g6
  unfold Game_forget
  intro h7 g7
  have F5' : Fp SB h h5 := F4.tr (F5.1.mo (fun o k hh => by
    simp only [SB, Bool.or_eq_false_iff] at hh
    exact hh.1.1.2))
  have F7 : Fp SB h h7 := by
    rw [g7, g6]
    exact (F5'.sI rfl).sI rfl
  have e : gI h7 14 3 = gI h 14 3 := F7.1 14 3 rfl
  have c7 : ∀ o k, o ≠ 24 → o ≠ 80 → gI h7 o k = gI h5 o k := fun o k a b => by rw [g7, sI_o b, g6, sI_o a]
  rw [e]
  refine k h7 F7 ⟨?_, ?_, ?_, ?_, fun p hp => ?_⟩ ?_ ?_
  · rw [c7 20 0 (by decide) (by decide), F5.1.1 20 0 rfl, g4, sI_k (by decide), g3, sI_k (by decide), g2, gI_sJ, g1, sI_s]; rfl
  · rw [g7, gJ_sI, g6, gJ_sI, F5.1.2 20 1 rfl, g4, gJ_sI, g3, gJ_sI, g2, sJ_s]; rfl
  · rw [c7 20 2 (by decide) (by decide), F5.1.1 20 2 rfl, g4, sI_k (by decide), g3, sI_s]; rfl
  · rw [c7 20 3 (by decide) (by decide), F5.1.1 20 3 rfl, g4, sI_s]; rfl
  · rw [c7 21 p (by decide) (by decide), f5 p hp]
    show (-1 : Int32) = if 4 + p = 3 then w else if 4 ≤ 4 + p then -1 else 0
    rw [if_neg (by omega), if_pos (by omega)]
  · rw [g7, sI_o (by decide), g6, sI_s]
  · rw [g7, sI_s]
theorem sim_land {B : Int} {x : Int32} (h0 : 0 ≤ B) : Sim B B (C_land x) (M_land x) := by
  intro h K I k
  obtain ⟨m, m9, t0, t5, tb⟩ : iTape h := I.2.2.2.2.2.1
  have z0 : (0 : Int64).toInt = 0 := rfl
  have no : (x.toInt < 0 ∨ (m : Int) < x.toInt) → M_land x h (fun r2 h2 => ((-3 : Int32) = r2 → K h2) ∧ (¬ (-3 : Int32) = r2 → False)) := by
    intro hx
    unfold M_land
    intro h1 g1
    have e5 : gI h1 98 5 = nI m := by rw [g1, sI_k (by decide)]; exact t5
    rw [e5]
    refine m_inN (by rw [i_l, i_l, nI_toInt (by omega), z0]; exact hx) (brT' rfl (simEnd (k h1 ?_)))
    rw [g1]
    exact Inv_k I (FpThr.mo scM_2)
  unfold C_land
  rw [t0]
  refine ⟨fun c => no (Or.inl ?_), fun c => ⟨fun d => ?_, fun d => no (Or.inr ?_)⟩⟩
  · rw [i_lt] at c; exact c
  · rw [i_lt] at c
    rw [i_le, nI_toInt (by omega)] at d
    have l0 : (0 : Int32).toInt = 0 := by decide
    rw [l0] at c
    obtain ⟨n, hn⟩ : ∃ n : Nat, x.toInt = n := ⟨x.toInt.toNat, by omega⟩
    have nm : n ≤ m := by omega
    have hx : x = nI n := by rw [i_eq, nI_toInt (by omega), hn]
    obtain ⟨b, hb⟩ : ∃ b : Nat → Nat, ∀ k, b k = (gI h 101 k).toInt.toNat % 256 := ⟨_, fun _ => rfl⟩
    have bt : ∀ k, k < m → gI h 101 k = nI (b k) ∧ gI h 1 k = sgB (b k) := by
      intro k hk
      obtain ⟨v, v1, v2, v3⟩ := tb k hk
      have : b k = v := by
        rw [hb k, v2, nI_toInt (by omega)]
        show v % 256 = v
        exact Nat.mod_eq_of_lt v1
      rw [this]
      exact ⟨v2, v3⟩
    have B' : TpB b n := ⟨by omega, fun k => by rw [hb k]; exact Nat.mod_lt _ (by decide)⟩
    refine r_head B' hx (fun k hk => (bt k (by omega)).2) (fun h1 st1 X F1 C1 w1 => ?_)
    intro h2 g2
    have I1 : SI b n st1 := tx_iv X hd_si.2
    have lo2 : ∀ o j, 13 ≤ o → gI h2 o j = gI h o j := fun o j ho => by rw [g2, sI_o (by omega)]; exact F1.1 o j (HF_hi ho)
    have lj2 : ∀ o j, 13 ≤ o → gJ h2 o j = gJ h o j := fun o j ho => by rw [g2, gJ_sI]; exact F1.2 o j (HF_hi ho)
    have e15 : gI h2 0 15 = gI h 0 15 := by rw [g2, sI_k (by decide)]; exact F1.1 0 15 rfl
    have e01 : gI h2 0 1 = 0 := by rw [g2, sI_s]
    have e2 : ∀ o j, o ≠ 0 → gI h2 o j = gI h1 o j := fun o j ho => by rw [g2, sI_o ho]
    obtain ⟨i1, i2, i3, i4, i5, i6, i7, i8, i9⟩ := I
    rcases hr : st1.1 with p | y
    · have ok : ∃ p, st1.1 = .inl p := ⟨p, hr⟩
      have S := C1.2.1
      have S' := S
      rw [hr] at S'
      have s13 : gI h1 2 13 = 0 := S'.1
      have s14 : gI h1 2 14 = -1 := S'.2.2.2.2
      have A0 := af_T B'.1 I1 ok
      have C2 : CI b n h2 st1 := by
        obtain ⟨T, _, D⟩ := C1
        obtain ⟨⟨a1, a2, a3, a4⟩, a5, a6, a7⟩ := D ok
        refine ⟨by rw [g2]; exact TpC_o T (by decide) (by decide), by rw [g2]; exact CSr_o S (by decide) (by decide) (by decide) (by decide), fun _ => ⟨⟨(e2 2 4 (by decide)).trans a1, (e2 2 5 (by decide)).trans a2, (e2 2 6 (by decide)).trans a3, (e2 2 7 (by decide)).trans a4⟩, fun i hi => ⟨(e2 10 i (by decide)).trans (a5 i hi).1, (e2 11 i (by decide)).trans (a5 i hi).2.1, (e2 12 i (by decide)).trans (a5 i hi).2.2⟩, (e2 7 3 (by decide)).trans a6, fun i hi => (e2 8 i (by decide)).trans (a7 i hi)⟩⟩
      refine brT ((e2 2 13 (by decide)).trans s13) ?_
      refine c_settle (af_ok I1 ok A0) (af_sa B'.1 I1 ok A0 C2) (fun h3 F3 L3 => c_fresh (Q := fun r1 h1 => M_land x h1 (fun r2 h2 => (r1 = r2 → K h2) ∧ (¬ r1 = r2 → False))) (fun h7 F7 R7 p7 q7 => ?_))
      show M_land x h7 (fun r2 h2 => (gI h3 14 3 = r2 → K h2) ∧ (¬ gI h3 14 3 = r2 → False))
      have lo7 : ∀ o j, 20 ≤ o → SB o j = false → gI h7 o j = gI h o j := fun o j ho hs => by
        rw [F7.1 o j hs, F3.1.1 o j (xS_hi ho), lo2 o j (by omega)]
      have lj7 : ∀ o j, 20 ≤ o → SB o j = false → gJ h7 o j = gJ h o j := fun o j ho hs => by
        rw [F7.2 o j hs, F3.1.2 o j (xS_hi ho), lj2 o j (by omega)]
      have w3 : gI h3 2 12 = nI (wtR b n) := by rw [F3.1.1 2 12 rfl, e2 2 12 (by decide)]; exact w1 ok
      rw [w3] at R7
      have e143 : gI h3 14 3 = nI st1.2.2.2.2.2 := L3.2.2.2.1.trans A0.1.1
      rw [e143]
      refine n_land B' hx nm m9 ((lo7 98 5 (by decide) rfl).trans t5) (fun k hk => (lo7 101 k (by decide) rfl).trans (bt k (by omega)).1) X (fun g1 y hy => ?_) (fun g1 _ F8 k99 f5 f13 f14 A1 P1 W1 => simEnd (k g1 ?_))
      · rw [hr] at hy; cases hy
      · have lo8 : ∀ o j, 20 ≤ o → SB o j = false → NG o j = false → gI g1 o j = gI h o j := fun o j ho hs hg => (F8.1 o j hg).trans (lo7 o j ho hs)
        have lj8 : ∀ o j, 20 ≤ o → SB o j = false → NG o j = false → gJ g1 o j = gJ h o j := fun o j ho hs hg => (F8.2 o j hg).trans (lj7 o j ho hs)
        have mid : ∀ o j, 25 ≤ o → o ≤ 79 → SB o j = false ∧ NG o j = false := fun o j a1 a2 => by
          have t : ∀ c, c < 25 ∨ 79 < c → (o == c) = false := fun c hc => by
            simp only [beq_eq_false_iff_ne]; omega
          exact ⟨by simp only [SB, t 20 (by omega), t 21 (by omega), t 24 (by omega), t 80 (by omega), Bool.false_and, Bool.or_false], by simp only [NG, t 98 (by omega), t 102 (by omega), t 99 (by omega), Bool.or_false]⟩
        have c0 : ∀ k, gI g1 0 k = gI h2 0 k := fun k => by rw [F8.1 0 k rfl, F7.1 0 k rfl, F3.1.1 0 k rfl]
        have c2 : ∀ k, k = 13 ∨ k = 14 → gI g1 2 k = gI h1 2 k := fun k hk => by
          rw [F8.1 2 k rfl, F7.1 2 k rfl, F3.1.1 2 k rfl, e2 2 k (by decide)]
        obtain ⟨q1, q2, q3, q4⟩ := np_T I1 ok
        obtain ⟨n1, n2⟩ := af_n I1 ok A1
        have wt : wtR b n < 10 := nm_lt (hd_wt X ok)
        have es : ∀ j, j < 12 → stdM g1 j = sdW (nI (wtR b n)) j := by
          intro j hj
          show gI g1 99 (58 + j) = if j = 3 then nI (wtR b n) else if 4 ≤ j then -1 else 0
          by_cases c : j = 3
          · subst c; rw [if_pos rfl]; exact W1
          · rw [if_neg c, P1 (58 + j) (by omega) (by omega) (by omega)]
            by_cases d : 4 ≤ j
            · rw [if_pos d, if_pos (by omega)]
            · rw [if_neg d, if_neg (by omega)]
        refine ⟨⟨af_ok I1 ok A1, af_lnd I1 ok A0 A1 (Lnd_k L3 (fun o j a1 a2 => ?_))⟩, ⟨StdOK_c (s := sdW (nI (wtR b n))) ⟨⟨0, by omega, rfl⟩, ⟨wtR b n, wt, rfl⟩, fun p hp => Or.inl ?_, ?_⟩ es, StdR_c (StdR_k R7 (fun y j hy => F8.1 y j (by rcases hy with rfl | rfl <;> rfl)) (F8.2 20 1 rfl)) es⟩, ?_, kImg i4 (fun j hj => ?_) (((c0 15)).trans e15) (fun i => lo8 100 i (by decide) rfl rfl) (fun o j a1 a2 => lo8 o j (by omega) (mid o j (by omega) (by omega)).1 (mid o j (by omega) (by omega)).2) (fun o j a1 a2 => lj8 o j (by omega) (mid o j (by omega) (by omega)).1 (mid o j (by omega) (by omega)).2), kTray i5 (fun t => lo8 124 t (by decide) rfl rfl) (fun t => lo8 125 t (by decide) rfl rfl) (fun t => lj8 126 t (by decide) rfl rfl) (fun o j a1 a2 => lo8 o j (by omega) (mid o j (by omega) (by omega)).1 (mid o j (by omega) (by omega)).2) (fun o j a1 a2 => lj8 o j (by omega) (mid o j (by omega) (by omega)).1 (mid o j (by omega) (by omega)).2), ⟨0, by omega, (c0 1).trans e01, f5, fun k hk => absurd hk (by omega)⟩, ⟨?_, ?_⟩, Or.inl ((F8.1 80 0 rfl).trans q7), (lo8 90 0 (by decide) rfl rfl).trans i9⟩
        · have t : ∀ c, c < 14 ∨ 19 < c → (o == c) = false := fun c hc => by
            simp only [beq_eq_false_iff_ne]; omega
          have h1 : SB o j = false := by simp only [SB, t 20 (by omega), t 21 (by omega), t 24 (by omega), t 80 (by omega), Bool.false_and, Bool.or_false]
          have h2 : NG o j = false := by simp only [NG, t 98 (by omega), t 102 (by omega), t 99 (by omega), Bool.or_false]
          exact (F8.1 o j h2).trans (F7.1 o j h1)
        · show (if 4 + p = 3 then nI (wtR b n) else if 4 ≤ 4 + p then -1 else 0) = (-1 : Int32)
          rw [if_neg (by omega), if_pos (by omega)]
        · show -B ≤ (0 : Int32).toInt ∧ (0 : Int32).toInt ≤ B
          rw [l0]; omega
        · obtain ⟨mm, nx, u1, u2, u3, u4, u5, u6⟩ := i3
          refine ⟨0, nx, by omega, u2, ?_, (F8.1 24 2 rfl).trans p7, (lo8 24 1 (by decide) rfl rfl).trans u5, fun i hi => absurd hi (by omega)⟩
          rw [P1 70 (by omega) (by omega) (by omega), if_neg (by omega)]; rfl
        · rw [k99 j (by omega)]
          exact lo7 99 j (by decide) rfl
        · rw [c2 13 (by omega), s13, f13]
        · rw [c2 14 (by omega), s14, f14]
    · have S := C1.2.1
      have KK := I1.1
      rw [hr] at S KK
      have s13 : gI h1 2 13 = nI y.1 := S.1
      have s14 : gI h1 2 14 = nI y.2 := S.2.1
      have d13 : gI h2 2 13 = nI y.1 := (e2 2 13 (by decide)).trans s13
      refine brF (fun z => w_ne KK (d13.symm.trans z)) ?_
      rw [d13]
      refine n_land B' hx nm m9 ((lo2 98 5 (by decide)).trans t5) (fun k hk => (lo2 101 k (by decide)).trans (bt k (by omega)).1) X (fun g1 y1 hy F8 f5 f13 f14 => ?_) (fun g1 ok => ?_)
      · rw [hr] at hy
        cases hy
        refine simEnd (k g1 ?_)
        have lo8 : ∀ o j, 13 ≤ o → NH o j = false → gI g1 o j = gI h o j := fun o j ho hg => (F8.1 o j hg).trans (lo2 o j ho)
        have lj8 : ∀ o j, 13 ≤ o → NH o j = false → gJ g1 o j = gJ h o j := fun o j ho hg => (F8.2 o j hg).trans (lj2 o j ho)
        have mid : ∀ o j, o ≤ 97 → NH o j = false := fun o j a1 => by
          have t : ∀ c, 97 < c → (o == c) = false := fun c hc => by
            simp only [beq_eq_false_iff_ne]; omega
          simp only [NH, t 98 (by omega), t 102 (by omega), Bool.or_false]
        have c0 : ∀ k, gI g1 0 k = gI h2 0 k := fun k => F8.1 0 k rfl
        have c2 : ∀ k, gI g1 2 k = gI h1 2 k := fun k => (F8.1 2 k rfl).trans (e2 2 k (by decide))
        have e99 : ∀ k, gI g1 99 k = gI h 99 k := fun k => lo8 99 k (by decide) rfl
        have eR : rowM g1 = rowM h := funext (fun k => e99 k)
        have eS : stdM g1 = stdM h := funext (fun k => e99 _)
        have E : LSame (rowM h) (rowM g1) := fun j _ _ => e99 j
        refine ⟨kLand i1 E (fun o j a1 a2 => lo8 o j (by omega) (mid o j (by omega))), ⟨by rw [eR, eS]; exact i2.1, by rw [eS]; exact StdR_k i2.2 (fun y j hy => lo8 y j (by omega) (mid y j (by omega))) (lj8 20 1 (by decide) rfl)⟩, kPast i3 i1.1 E (fun j _ _ => e99 j) (fun o j a1 a2 => lo8 o j (by omega) (mid o j (by omega))) (fun o j a1 a2 => lj8 o j (by omega) (mid o j (by omega))), kImg i4 (fun j _ => e99 j) ((c0 15).trans e15) (fun i => lo8 100 i (by decide) rfl) (fun o j a1 a2 => lo8 o j (by omega) (mid o j (by omega))) (fun o j a1 a2 => lj8 o j (by omega) (mid o j (by omega))), kTray i5 (fun t => lo8 124 t (by decide) rfl) (fun t => lo8 125 t (by decide) rfl) (fun t => lj8 126 t (by decide) rfl) (fun o j a1 a2 => lo8 o j (by omega) (mid o j (by omega))) (fun o j a1 a2 => lj8 o j (by omega) (mid o j (by omega))), ⟨0, by omega, (c0 1).trans e01, f5, fun k hk => absurd hk (by omega)⟩, ⟨?_, ?_⟩, kGame i8 i1.1 E (fun o j a1 a2 => lo8 o j (by omega) (mid o j (by omega))), (lo8 90 0 (by decide) rfl).trans i9⟩
        · rw [c2 13, s13, f13]
        · rw [c2 14, s14, f14]
      · obtain ⟨p, ok⟩ := ok
        rw [hr] at ok; cases ok
  · rw [i_le, nI_toInt (by omega)] at d; omega
