/-! the text, pure: its state, a line, the lines -/
abbrev Tx : Type := Rs × (Nat × Nat × Nat) × (Nat → Int32 × Int32 × Int32) × (List Nat × List Nat) × Nat × Nat
def cdR : Rs → List Nat
  | .inl p => p.2
  | .inr _ => []
theorem puC_cd (r : Rs) : puC (cdR r) (cl0 r) = r := by rcases r with p | y <;> rfl
theorem cl0_2 (r : Rs) : cl0 (cl0 r) = cl0 r := by rcases r with p | y <;> rfl
theorem cl0_lv (n : Nat) (r : Rs) : lvR n (cl0 r) = lvR n r := by rcases r with p | y <;> rfl
theorem cl0_in {r : Rs} (h : ∃ p, cl0 r = .inl p) : ∃ p, r = .inl p := by
  rcases r with p | y
  · exact ⟨p, rfl⟩
  · obtain ⟨_, h⟩ := h; cases (show (Sum.inr y : Rs) = .inl _ from h)
theorem cd_ln (r : Rs) : (cdR r).length = lnR r := by rcases r with p | y <;> rfl
theorem cl0_ln {r : Rs} (h : cl0 r = r) : lnR r = 0 := by
  rcases r with p | y
  · have h : (Sum.inl (p.1, []) : Rs) = .inl p := h
    rw [← h]; rfl
  · rfl
def LwO (L : List Nat) : Prop := L = [] ∨ (L ≠ [] ∧ cdO L ∧ PhW 36 L)
def RdO (np : Nat) (x : Int32 × Int32 × Int32) : Prop := (∃ f, f < np ∧ x.1 = nI f) ∧ ∃ t, t < np ∧ x.2.1 = nI t
def SI (b : Nat → Nat) (n : Nat) (st : Tx) : Prop := ROK b n st.1 ∧ cl0 st.1 = st.1 ∧ ((∃ p, st.1 = .inl p) → (st.2.1.1 ≤ 8 ∧ st.2.1.2.2 ≤ 16 ∧ st.2.1.2.1 < 2 ^ st.2.1.1) ∧ (st.2.2.2.1.1.length + st.2.2.2.1.2.length ≤ st.2.2.2.2.1 ∧ st.2.2.2.2.1 ≤ lvR n st.1) ∧ (∀ i, i < st.2.1.2.2 → RdO st.2.1.1 (st.2.2.1 i)) ∧ LwO st.2.2.2.1.1 ∧ LwO st.2.2.2.1.2)
def rdS (b : Nat → Nat) (n np nr : Nat) (r : Rs) (rd : Nat → Int32 × Int32 × Int32) : Nat → Int32 × Int32 × Int32 := fun i => if i = nr then (nI (vlR (nxR b n r)), nI (vlR (nmR b n np (nxR b n r))), rdG b n np r) else rd i
def LN (b : Nat → Nat) (n : Nat) (st st1 : Tx) : Prop :=
  (kdR st.1 = 2 ∧ st1 = (plR b n st.2.1.1 st.1, (st.2.1.1 + 1, (if plM b n st.1 = true then st.2.1.2.1 ||| 2 ^ st.2.1.1 else st.2.1.2.1), st.2.1.2.2), st.2.2.1, st.2.2.2.1, st.2.2.2.2)) ∨
  (kdR st.1 = 5 ∧ st1 = (rdR b n st.2.1.1 st.2.1.2.2 st.1, (st.2.1.1, st.2.1.2.1, st.2.1.2.2 + 1), rdS b n st.2.1.1 st.2.1.2.2 st.1 st.2.2.1, st.2.2.2.1, st.2.2.2.2)) ∨
  (kdR st.1 = 8 ∧ ∃ r1, Rl b n 3 0 (exR b n 31 (nxR b n st.1)) r1 ∧ st1 = (cl0 r1, st.2.1, st.2.2.1, (cdR r1, st.2.2.2.1.2), st.2.2.2.2.1 + lnR r1, st.2.2.2.2.2)) ∨
  (kdR st.1 = 9 ∧ ∃ r1, Rl b n 5 0 (exR b n 31 (nxR b n st.1)) r1 ∧ st1 = (cl0 r1, st.2.1, st.2.2.1, (st.2.2.2.1.1, cdR r1), st.2.2.2.2.1 + lnR r1, st.2.2.2.2.2)) ∨
  ((kdR st.1 ≠ 2 ∧ kdR st.1 ≠ 5 ∧ kdR st.1 ≠ 8 ∧ kdR st.1 ≠ 9) ∧ st1 = (flR 2 st.1, st.2))
def exS (b : Nat → Nat) (n : Nat) (st : Tx) : Tx := (exR b n 30 st.1, st.2)
def nlS (b : Nat → Nat) (n : Nat) (st : Tx) : Tx := (exR b n 30 st.1, st.2.1, st.2.2.1, st.2.2.2.1, st.2.2.2.2.1, st.2.2.2.2.2 + 1)
def TX (b : Nat → Nat) (n : Nat) (st st1 : Tx) : Prop := ∀ P : Tx → Tx → Prop, (∀ s, kdR s.1 = 24 ∨ kdR s.1 = 99 → P s s) → (∀ s s1 s2, kdR s.1 ≠ 24 → kdR s.1 ≠ 99 → LN b n s s1 → P (nlS b n s1) s2 → P s s2) → P st st1
theorem tx_0 {b : Nat → Nat} {n : Nat} {st : Tx} (h : kdR st.1 = 24 ∨ kdR st.1 = 99) : TX b n st st := fun _ c _ => c st h
theorem tx_1 {b : Nat → Nat} {n : Nat} {st s1 s2 : Tx} (h1 : kdR st.1 ≠ 24) (h2 : kdR st.1 ≠ 99) (l : LN b n st s1) (t : TX b n (nlS b n s1) s2) : TX b n st s2 := fun P c d => d st s1 s2 h1 h2 l (t P c d)
theorem pl_iv {b : Nat → Nat} {n np : Nat} {r : Rs} (h : ROK b n r) : ROK b n (plR b n np r) ∧ lvR n r ≤ lvR n (plR b n np r) := by
  unfold plR
  have k1 := nx_iv h
  by_cases c : np < 8
  · rw [if_pos c]
    by_cases d : kdR (nxR b n r) = 3
    · rw [if_pos d]
      have k2 := nx_iv k1.1
      exact ⟨k2.1, Nat.le_trans k1.2.2.1 k2.2.2.1⟩
    · rw [if_neg d]
      have k2 := ex_iv (k := 4) k1.1
      exact ⟨k2.1, Nat.le_trans k1.2.2.1 k2.2.2⟩
  · rw [if_neg c]
    have k2 := fl_iv (k := 4) h (by omega) (by omega)
    exact ⟨k2.1, k2.2.2⟩
theorem rdR_iv {b : Nat → Nat} {n np nr : Nat} {r : Rs} (h : ROK b n r) : ROK b n (rdR b n np nr r) ∧ lvR n r ≤ lvR n (rdR b n np nr r) := by
  unfold rdR
  by_cases c : nr < 16
  · rw [if_pos c]
    have k1 := nx_iv h
    have k2 := nm_iv (lim := np) k1.1
    have k3 := nm_iv (lim := np) k2.1
    have k5 : ROK b n (rd5 b n np r) ∧ lvR n (rd4 b n np r) ≤ lvR n (rd5 b n np r) := by
      unfold rd5
      split
      · have := nx_iv k3.1
        exact ⟨this.1, this.2.2.1⟩
      · have := ex_iv (k := 7) k3.1
        exact ⟨this.1, this.2.2⟩
    have k6 := nm_iv (lim := 100) k5.1
    have e : lvR n (rd4 b n np r) = lvR n (nmR b n np (nmR b n np (nxR b n r))) := rfl
    refine ⟨k6.1, ?_⟩
    have a1 := k1.2.2.1
    have a2 := k2.2.2
    have a3 := k3.2.2
    have a5 := k5.2
    have a6 := k6.2.2
    omega
  · rw [if_neg c]
    have k2 := fl_iv (k := 4) h (by omega) (by omega)
    exact ⟨k2.1, k2.2.2⟩
theorem nm_lt {b : Nat → Nat} {n lim : Nat} {r : Rs} (h : ∃ p, nmR b n lim r = .inl p) : vlR r < lim := by
  rcases r with p | y
  · by_cases c : p.1.2.2.1 = 23
    · by_cases d : p.1.2.2.2 < lim
      · exact d
      · rw [nm_2 c d] at h; exact absurd h fl_no
    · rw [nm_3 c] at h; exact absurd h fl_no
  · obtain ⟨_, h⟩ := h; cases (show (Sum.inr y : Rs) = .inl _ from h)
theorem pl_in {b : Nat → Nat} {n np : Nat} {r : Rs} (h : ∃ p, plR b n np r = .inl p) : np < 8 := by
  unfold plR at h
  by_cases c : np < 8
  · exact c
  · rw [if_neg c] at h; exact absurd h fl_no
theorem rd_in {b : Nat → Nat} {n np nr : Nat} {r : Rs} (h : ∃ p, rdR b n np nr r = .inl p) : nr < 16 ∧ vlR (nxR b n r) < np ∧ vlR (nmR b n np (nxR b n r)) < np := by
  unfold rdR at h
  by_cases c : nr < 16
  · rw [if_pos c] at h
    have h4 : ∃ p, rd4 b n np r = .inl p := rd5_in (nm_in h)
    have h4 : ∃ p, nmR b n np (nmR b n np (nxR b n r)) = .inl p := h4
    exact ⟨c, nm_lt (nm_in h4), nm_lt h4⟩
  · rw [if_neg c] at h; exact absurd h fl_no
theorem PhW_le {g g1 : Nat} {l : List Nat} (h : PhW g l) (hg : g ≤ g1) : PhW g1 l := fun W st m hm => h W st m (by omega)
theorem law_ne {b : Nat → Nat} {n w : Nat} {r r1 : Rs} (hw : w = 3 ∨ w = 5) (K : ROK b n r) (z : cl0 r = r) (R : Rl b n w 0 (exR b n 31 (nxR b n r)) r1) (ok : ∃ p, r1 = .inl p) : cdR r1 ≠ [] ∧ cdO (cdR r1) ∧ PhW 36 (cdR r1) := by
  obtain ⟨p1, rfl⟩ := ok
  obtain ⟨p2, hp2⟩ : ∃ p2, exR b n 31 (nxR b n r) = .inl p2 := by
    rcases hq : exR b n 31 (nxR b n r) with p2 | y2
    · exact ⟨p2, rfl⟩
    · have := (rl_iv R).1 y2 hq
      cases this
  have K2 := (ex_iv (k := 31) (nx_iv K).1).1
  obtain ⟨p3, e3, f3⟩ := ex_in hp2
  obtain ⟨p4, e4, f4⟩ := nx_in e3
  have e2 : p2.2 = [] := by
    rw [f3, f4]
    have q := cl0_ln z
    rw [e4] at q
    exact List.length_eq_zero_iff.mp q
  obtain ⟨l, l1, l2, l3⟩ := rl_codes R K2 (by omega) p2 p1 hp2 rfl
  rw [e2, List.nil_append] at l1
  show p1.2 ≠ [] ∧ cdO p1.2 ∧ PhW 36 p1.2
  rw [l1]
  rcases hw with rfl | rfl
  · have l3 : PhW (grR 3 0) l ∧ l ≠ [] := l3
    exact ⟨l3.2, l2, PhW_le l3.1 (by decide)⟩
  · have l3 : PhW (grR 5 0) l ∧ l ≠ [] := l3
    exact ⟨l3.2, l2, PhW_le l3.1 (by decide)⟩
theorem law_iv {b : Nat → Nat} {n w s : Nat} {r r1 : Rs} (K : ROK b n r) (z : cl0 r = r) (hs : s ≤ lvR n r) (R : Rl b n w 0 (exR b n 31 (nxR b n r)) r1) : ROK b n r1 ∧ lvR n r ≤ lvR n r1 ∧ s + lnR r1 ≤ lvR n r1 := by
  have k1 := nx_iv K
  have k2 := ex_iv (k := 31) k1.1
  obtain ⟨i1, i2, i3⟩ := (rl_iv R).2 k2.1
  have z0 := cl0_ln z
  have a1 := k1.2.1
  have a2 := k1.2.2.1
  have a3 := k2.2.1
  have a4 := k2.2.2
  exact ⟨i1, by omega, by omega⟩
theorem RdO_le {np np1 : Nat} {x : Int32 × Int32 × Int32} (h : RdO np x) (hn : np ≤ np1) : RdO np1 x := by
  obtain ⟨⟨f, f1, f2⟩, t, t1, t2⟩ := h
  exact ⟨⟨f, by omega, f2⟩, t, by omega, t2⟩
theorem si_ln {b : Nat → Nat} {n : Nat} {st st1 : Tx} (I : SI b n st) (ok : ∃ p, st.1 = .inl p) (l : LN b n st st1) : SI b n st1 ∧ lvR n st.1 ≤ lvR n st1.1 := by
  obtain ⟨r, ⟨np, mi, nr⟩, rd, ⟨L0, L1⟩, s, c⟩ := st
  obtain ⟨K, z, I2⟩ := I
  obtain ⟨⟨i1, i2, i3⟩, ⟨i4, i6⟩, i7, i8, i9⟩ := I2 ok
  have K : ROK b n r := K
  have z : cl0 r = r := z
  have i1 : np ≤ 8 := i1
  have i2 : nr ≤ 16 := i2
  have i3 : mi < 2 ^ np := i3
  have i4 : L0.length + L1.length ≤ s := i4
  have i6 : s ≤ lvR n r := i6
  have i7 : ∀ i, i < nr → RdO np (rd i) := i7
  rcases l with ⟨_, rfl⟩ | ⟨_, rfl⟩ | ⟨_, r1, R, rfl⟩ | ⟨_, r1, R, rfl⟩ | ⟨_, rfl⟩
  · have v := pl_iv (np := np) K
    have e : cl0 (plR b n np r) = plR b n np r := by rw [(cl0_pl b n np r).1, z]
    refine ⟨⟨v.1, e, fun ok1 => ?_⟩, v.2⟩
    have q := pl_in (b := b) (n := n) (np := np) (r := r) ok1
    refine ⟨⟨show np + 1 ≤ 8 by omega, i2, ?_⟩, ⟨i4, Nat.le_trans i6 v.2⟩, fun i hi => RdO_le (i7 i hi) (Nat.le_succ _), i8, i9⟩
    show (if plM b n r = true then mi ||| 2 ^ np else mi) < 2 ^ (np + 1)
    have d : 2 ^ np < 2 ^ (np + 1) := Nat.pow_lt_pow_right (by decide) (by omega)
    by_cases c : plM b n r = true
    · rw [if_pos c]
      exact Nat.or_lt_two_pow (by omega) d
    · rw [if_neg c]; omega
  · have v := rdR_iv (np := np) (nr := nr) K
    have e : cl0 (rdR b n np nr r) = rdR b n np nr r := by rw [(cl0_rd b n np nr r).1, z]
    refine ⟨⟨v.1, e, fun ok1 => ?_⟩, v.2⟩
    obtain ⟨q1, q2, q3⟩ := rd_in (b := b) (n := n) (np := np) (nr := nr) (r := r) ok1
    refine ⟨⟨i1, show nr + 1 ≤ 16 by omega, i3⟩, ⟨i4, Nat.le_trans i6 v.2⟩, fun i hi => ?_, i8, i9⟩
    have hi : i < nr + 1 := hi
    show RdO np (rdS b n np nr r rd i)
    unfold rdS
    by_cases c : i = nr
    · rw [if_pos c]
      exact ⟨⟨_, q2, rfl⟩, _, q3, rfl⟩
    · rw [if_neg c]; exact i7 i (by omega)
  · obtain ⟨v1, v2, v3⟩ := law_iv K z i6 R
    refine ⟨⟨cl0_ok v1, cl0_2 r1, fun ok1 => ⟨⟨i1, i2, i3⟩, ⟨?_, ?_⟩, i7, Or.inr (law_ne (Or.inl rfl) K z R (cl0_in ok1)), i9⟩⟩, ?_⟩
    · show (cdR r1).length + L1.length ≤ s + lnR r1
      rw [cd_ln]; omega
    · show s + lnR r1 ≤ lvR n (cl0 r1)
      rw [cl0_lv]; exact v3
    · show lvR n r ≤ lvR n (cl0 r1)
      rw [cl0_lv]; exact v2
  · obtain ⟨v1, v2, v3⟩ := law_iv K z i6 R
    refine ⟨⟨cl0_ok v1, cl0_2 r1, fun ok1 => ⟨⟨i1, i2, i3⟩, ⟨?_, ?_⟩, i7, i8, Or.inr (law_ne (Or.inr rfl) K z R (cl0_in ok1))⟩⟩, ?_⟩
    · show L0.length + (cdR r1).length ≤ s + lnR r1
      rw [cd_ln]; omega
    · show s + lnR r1 ≤ lvR n (cl0 r1)
      rw [cl0_lv]; exact v3
    · show lvR n r ≤ lvR n (cl0 r1)
      rw [cl0_lv]; exact v2
  · have v := fl_iv (k := 2) K (by omega) (by omega)
    have e : cl0 (flR 2 r) = flR 2 r := by rw [cl0_fl, z]
    exact ⟨⟨v.1, e, fun ok1 => absurd ok1 fl_no⟩, v.2.2⟩
theorem si_ex {b : Nat → Nat} {n : Nat} {st : Tx} (I : SI b n st) : SI b n (nlS b n st) ∧ lvR n st.1 ≤ lvR n (exR b n 30 st.1) ∧ ((∃ p, exR b n 30 st.1 = .inl p) → lvR n st.1 + 1 ≤ lvR n (exR b n 30 st.1)) := by
  obtain ⟨r, ⟨np, mi, nr⟩, rd, ⟨L0, L1⟩, s, c⟩ := st
  obtain ⟨K, z, I2⟩ := I
  have K : ROK b n r := K
  have z : cl0 r = r := z
  have v := ex_iv (k := 30) K
  have e : cl0 (exR b n 30 r) = exR b n 30 r := by rw [cl0_ex, z]
  refine ⟨⟨v.1, e, fun ok1 => ?_⟩, v.2.2, fun ok1 => ?_⟩
  · obtain ⟨p1, ok1⟩ := ok1
    obtain ⟨p0, e0, _⟩ := ex_in (r := r) ok1
    obtain ⟨a1, ⟨a2, a4⟩, a5⟩ := I2 ⟨p0, e0⟩
    exact ⟨a1, ⟨a2, Nat.le_trans a4 v.2.2⟩, a5⟩
  · show lvR n r + 1 ≤ lvR n (exR b n 30 r)
    have ok1 : ∃ p, exR b n 30 r = .inl p := ok1
    unfold exR at ok1 ⊢
    by_cases d : kdR r = 30
    · rw [if_pos d]
      exact (nx_iv K).2.2.2 (by omega) (by omega)
    · rw [if_neg d] at ok1; exact absurd ok1 fl_no
theorem ln_lt {b : Nat → Nat} {n : Nat} {st st1 : Tx} (I : SI b n st) (ok : ∃ p, st.1 = .inl p) (h24 : kdR st.1 ≠ 24) (l : LN b n st st1) : SI b n (nlS b n st1) ∧ lvR n st.1 + 1 ≤ lvR n (exR b n 30 st1.1) := by
  obtain ⟨J, u⟩ := si_ln I ok l
  obtain ⟨J1, u1, u2⟩ := si_ex J
  refine ⟨J1, ?_⟩
  rcases hq : exR b n 30 st1.1 with p1 | y1
  · have := u2 ⟨p1, hq⟩
    rw [hq] at this; omega
  · obtain ⟨p, hp⟩ := ok
    have K := I.1
    rw [hp] at K h24 ⊢
    have a := (nx_iv K).2.2.2 h24 (fun z => by
      have := tk_lt K.1
      have z : p.1.2.2.1 = 99 := z
      omega)
    have b1 := (rok_le (nx_iv K).1).2
    show lvR n (.inl p) + 1 ≤ n
    omega
theorem kd_end {b : Nat → Nat} {n : Nat} {r : Rs} (K : ROK b n r) (h : n ≤ lvR n r) : kdR r = 24 ∨ kdR r = 99 := by
  by_cases c : kdR r = 24
  · exact Or.inl c
  · by_cases d : kdR r = 99
    · exact Or.inr d
    · have a := (nx_iv K).2.2.2 c d
      have b1 := (rok_le (nx_iv K).1).2
      omega
theorem tx_iv {b : Nat → Nat} {n : Nat} {st st1 : Tx} (T : TX b n st st1) : SI b n st → SI b n st1 := by
  refine T (fun s s1 => SI b n s → SI b n s1) (fun s _ I => I) (fun s s1 s2 h1 h2 l ih I => ih ?_)
  have ok : ∃ p, s.1 = .inl p := by
    rcases hq : s.1 with p | y
    · exact ⟨p, rfl⟩
    · rw [hq] at h2; exact absurd rfl h2
  exact (ln_lt I ok h1 l).1
