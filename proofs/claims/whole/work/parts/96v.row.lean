/-! the row that a text tells -/
def LwA (a : Row) (law : Nat) (L : List Nat) : Prop := (L = [] ∧ a (4 + law) = 0) ∨ (L ≠ [] ∧ a (4 + law) = 1 ∧ ∃ p, p + L.length ≤ 900 ∧ a (6 + law) = nI p ∧ a (8 + law) = nI L.length ∧ ∀ i, i < L.length → a (192 + p + i) = nI (L.getD i 0))
def npT (st : Tx) : Nat := if st.2.1.1 = 0 then 1 else st.2.1.1
def miT (st : Tx) : Nat := if st.2.1.1 = 0 then 1 else st.2.1.2.1
def AF (a : Row) (st : Tx) : Prop := (a 0 = nI st.2.2.2.2.2 ∧ a 1 = nI (npT st) ∧ a 2 = nI st.2.1.2.2 ∧ a 3 = nI (miT st)) ∧ (∀ i, i < st.2.1.2.2 → a (10 + i) = (st.2.2.1 i).1 ∧ a (26 + i) = (st.2.2.1 i).2.1 ∧ a (42 + i) = (st.2.2.1 i).2.2) ∧ LwA a 0 st.2.2.2.1.1 ∧ LwA a 1 st.2.2.2.1.2
theorem codes_eq {a : Row} {law p : Nat} {L : List Nat} (hp : p + L.length ≤ 900) (e6 : a (6 + law) = nI p) (e8 : a (8 + law) = nI L.length) (hc : ∀ i, i < L.length → a (192 + p + i) = nI (L.getD i 0)) : codesA a law = cds L := by
  have t6 : (a (6 + law)).toInt.toNat = p := by rw [e6, nI_toInt (by omega)]; rfl
  have t8 : (a (8 + law)).toInt.toNat = L.length := by rw [e8, nI_toInt (by omega)]; rfl
  unfold codesA cds
  rw [t6, t8]
  apply List.ext_getElem
  · rw [List.length_map, List.length_map, List.length_range]
  · intro i h1 h2
    rw [List.getElem_map, List.getElem_map, List.getElem_range]
    have hi : i < L.length := by rw [List.length_map] at h2; exact h2
    rw [hc i hi, List.getD_eq_getElem?_getD, List.getElem?_eq_getElem hi]; rfl
theorem lwa_ok {a : Row} {law : Nat} {L : List Nat} (O : LwO L) (A : LwA a law L) : a (4 + law) = 0 ∨ a (4 + law) = 1 ∧ codeOK a law := by
  rcases A with ⟨_, e⟩ | ⟨ne, e, p, hp, e6, e8, hc⟩
  · exact Or.inl e
  · rcases O with z | ⟨_, o1, o2⟩
    · exact absurd z ne
    · have ec := codes_eq hp e6 e8 hc
      have pos : 0 < L.length := List.length_pos_iff.mpr ne
      refine Or.inr ⟨e, ⟨p, L.length, e6, e8, hp, pos⟩, fun c hcm h1 h2 => ?_, fun W => ?_⟩
      · rw [ec] at hcm
        obtain ⟨x, hx, rfl⟩ := List.mem_map.mp hcm
        have l1 : (1000 : Int32).toInt = 1000 := by decide
        have l3 : (3000 : Int32).toInt = 3000 := by decide
        have l4 : (1004 : Int32).toInt = 1004 := by decide
        have b := o1 x hx
        have xi : (nI x).toInt = x := nI_toInt (by omega)
        rw [i_le, xi, l3] at h2
        rw [i_le, xi, l4]
        omega
      · rw [ec]
        obtain ⟨v, r1, _⟩ := o2 W [] 36 (by show 0 + 36 ≤ 36; omega)
        exact ⟨v, r1⟩
theorem np_T {st : Tx} {b : Nat → Nat} {n : Nat} (I : SI b n st) (ok : ∃ p, st.1 = .inl p) : 1 ≤ npT st ∧ npT st ≤ 8 ∧ st.2.1.1 ≤ npT st ∧ miT st < 2 ^ npT st := by
  obtain ⟨⟨i1, i2, i3⟩, -⟩ := I.2.2 ok
  unfold npT miT
  by_cases c : st.2.1.1 = 0
  · rw [if_pos c, if_pos c]
    exact ⟨by omega, by omega, by omega, by decide⟩
  · rw [if_neg c, if_neg c]
    exact ⟨by omega, i1, by omega, i3⟩
theorem af_n {a : Row} {st : Tx} {b : Nat → Nat} {n : Nat} (I : SI b n st) (ok : ∃ p, st.1 = .inl p) (A : AF a st) : nP a = npT st ∧ nR a = st.2.1.2.2 := by
  have h := np_T I ok
  obtain ⟨⟨i1, i2, i3⟩, -⟩ := I.2.2 ok
  unfold nP nR
  rw [A.1.2.1, A.1.2.2.1, nI_toInt (by omega), nI_toInt (by omega)]
  exact ⟨rfl, rfl⟩
theorem af_ok {a : Row} {st : Tx} {b : Nat → Nat} {n : Nat} (I : SI b n st) (ok : ∃ p, st.1 = .inl p) (A : AF a st) : LandOK a := by
  obtain ⟨q1, q2, q3, q4⟩ := np_T I ok
  obtain ⟨e1, e2⟩ := af_n I ok A
  obtain ⟨⟨i1, i2, i3⟩, _, i7, i8, i9⟩ := I.2.2 ok
  obtain ⟨⟨a0, a1, a2, a3⟩, a4, a5, a6⟩ := A
  refine ⟨⟨by omega, by omega, by rw [e1]; exact a1⟩, ⟨by omega, by rw [e2]; exact a2⟩, fun r hr => ?_, lwa_ok i8 a5, lwa_ok i9 a6, miT st, a3, by rw [e1]; exact q4⟩
  rw [e2] at hr
  obtain ⟨b1, b2, b3⟩ := a4 r hr
  obtain ⟨⟨f, f1, f2⟩, t, t1, t2⟩ := i7 r hr
  have g1 : a (10 + r) = nI f := b1.trans f2
  have g2 : a (26 + r) = nI t := b2.trans t2
  have u1 : fromA a r = f := by
    unfold fromA
    rw [g1, nI_toInt (by omega)]; rfl
  have u2 : toA a r = t := by
    unfold toA
    rw [g2, nI_toInt (by omega)]; rfl
  rw [u1, u2, e1]
  exact ⟨⟨g1, by omega⟩, g2, by omega⟩
theorem lwa_eq {a a1 : Row} {law : Nat} {L : List Nat} (A : LwA a law L) (A1 : LwA a1 law L) : a1 (4 + law) = a (4 + law) ∧ (a (4 + law) = 0 ∨ rkA a1 law = rkA a law) := by
  rcases A with ⟨z, e⟩ | ⟨ne, e, p, hp, e6, e8, hc⟩
  · rcases A1 with ⟨_, f⟩ | ⟨ne, _⟩
    · exact ⟨f.trans e.symm, Or.inl e⟩
    · exact absurd z ne
  · rcases A1 with ⟨z, _⟩ | ⟨_, f, p1, hp1, f6, f8, fc⟩
    · exact absurd z ne
    · refine ⟨f.trans e.symm, Or.inr ?_⟩
      funext W
      unfold rkA
      rw [codes_eq hp e6 e8 hc, codes_eq hp1 f6 f8 fc]
theorem af_lnd {a a1 : Row} {st : Tx} {b : Nat → Nat} {n : Nat} {h : Hp} (I : SI b n st) (ok : ∃ p, st.1 = .inl p) (A : AF a st) (A1 : AF a1 st) (L : Lnd h a) : Lnd h a1 := by
  obtain ⟨n1, n2⟩ := af_n I ok A
  obtain ⟨m1, m2⟩ := af_n I ok A1
  obtain ⟨⟨a0, a1', a2, a3⟩, a4, a5, a6⟩ := A
  obtain ⟨⟨b0, b1, b2, b3⟩, b4, b5, b6⟩ := A1
  obtain ⟨r1, r2, r3, r4, r5, r6, r7, r8⟩ := L
  obtain ⟨y4, z4⟩ := lwa_eq a5 b5
  obtain ⟨y5, z5⟩ := lwa_eq a6 b6
  have y4 : a1 4 = a 4 := y4
  have y5 : a1 5 = a 5 := y5
  have z4 : a 4 = 0 ∨ rkA a1 0 = rkA a 0 := z4
  have z5 : a 5 = 0 ∨ rkA a1 1 = rkA a 1 := z5
  have eR : nR a1 = nR a := by rw [n2, m2]
  have c10 : ∀ r, r < nR a → a1 (10 + r) = a (10 + r) := fun r hr => by rw [n2] at hr; rw [(a4 r hr).1, (b4 r hr).1]
  have c26 : ∀ r, r < nR a → a1 (26 + r) = a (26 + r) := fun r hr => by rw [n2] at hr; rw [(a4 r hr).2.1, (b4 r hr).2.1]
  have c42 : ∀ r, r < nR a → a1 (42 + r) = a (42 + r) := fun r hr => by rw [n2] at hr; rw [(a4 r hr).2.2, (b4 r hr).2.2]
  have wd : ∀ r w, r < nR a → wordsA a1 r w = wordsA a r w := fun r w hr => by
    funext j
    match j with
    | 0 => exact c42 r hr
    | 1 => exact c10 r hr
    | 2 => exact c26 r hr
    | 3 => rfl
    | (n + 4) => rfl
  have pay : ∀ w r, r < nR a → payA a1 w r = payA a w r := fun w r hr => by
    unfold payA
    rw [y4, c42 r hr, wd r w hr]
    rcases z4 with z | z
    · have : ¬ a 4 = 1 := by rw [z]; decide
      rw [if_neg this, if_neg this]
    · rw [z]
  have opn : ∀ w r, r < nR a → opnA a1 w r = opnA a w r := fun w r hr => by
    unfold opnA
    rw [y5, wd r w hr]
    rcases z5 with z | z
    · rw [if_pos z, if_pos z]
    · rw [z]
  refine ⟨?_, ?_, ?_, ?_, fun r hr => ?_, fun p hp => ?_, fun w hw => ?_, fun w r hw hr => ?_⟩
  · rw [b1, ← a1']; exact r1
  · rw [b3, ← a3]; exact r2
  · rw [b2, ← a2]; exact r3
  · rw [b0, ← a0]; exact r4
  · rw [eR] at hr
    rw [c10 r hr, c26 r hr]; exact r5 r hr
  · rw [r6 p hp, eR]
    congr 1
    exact bset_cong (fun r hr => by unfold fromA; rw [c10 r hr])
  · rw [r7 w hw, eR]
    congr 1
    exact bset_cong (fun r hr => (opn w r hr).symm)
  · rw [eR] at hr
    rw [pay w r hr]; exact r8 w r hw hr
def rowT (st : Tx) : Row := fun k => if k < 10 then (([nI st.2.2.2.2.2, nI (npT st), nI st.2.1.2.2, nI (miT st), (if st.2.2.2.1.1 = [] then 0 else 1), (if st.2.2.2.1.2 = [] then 0 else 1), nI 0, nI st.2.2.2.1.1.length, nI st.2.2.2.1.1.length, nI st.2.2.2.1.2.length] : List Int32).getD k 0) else if k < 26 then (st.2.2.1 (k - 10)).1 else if k < 42 then (st.2.2.1 (k - 26)).2.1 else if k < 58 then (st.2.2.1 (k - 42)).2.2 else nI ((st.2.2.2.1.1 ++ st.2.2.2.1.2).getD (k - 192) 0)
theorem af_T {st : Tx} {b : Nat → Nat} {n : Nat} (hn : n ≤ 900) (I : SI b n st) (ok : ∃ p, st.1 = .inl p) : AF (rowT st) st := by
  obtain ⟨⟨i1, i2, i3⟩, ⟨i4, i5⟩, -⟩ := I.2.2 ok
  have l := (rok_le I.1).2
  have hi : ∀ k, 192 ≤ k → rowT st k = nI ((st.2.2.2.1.1 ++ st.2.2.2.1.2).getD (k - 192) 0) := fun k hk => by
    unfold rowT
    rw [if_neg (by omega), if_neg (by omega), if_neg (by omega), if_neg (by omega)]
  refine ⟨⟨rfl, rfl, rfl, rfl⟩, fun i hi => ⟨?_, ?_, ?_⟩, ?_, ?_⟩
  · unfold rowT
    rw [if_neg (by omega), if_pos (by omega), show 10 + i - 10 = i by omega]
  · unfold rowT
    rw [if_neg (by omega), if_neg (by omega), if_pos (by omega), show 26 + i - 26 = i by omega]
  · unfold rowT
    rw [if_neg (by omega), if_neg (by omega), if_neg (by omega), if_pos (by omega), show 42 + i - 42 = i by omega]
  · have e : rowT st 4 = if st.2.2.2.1.1 = [] then 0 else 1 := rfl
    by_cases c : st.2.2.2.1.1 = []
    · rw [if_pos c] at e; exact Or.inl ⟨c, e⟩
    · rw [if_neg c] at e
      refine Or.inr ⟨c, e, 0, by omega, rfl, rfl, fun i hi2 => ?_⟩
      rw [hi _ (by omega), show 192 + 0 + i - 192 = i by omega, List.getD_eq_getElem?_getD, List.getD_eq_getElem?_getD, List.getElem?_append_left hi2]
  · have e : rowT st 5 = if st.2.2.2.1.2 = [] then 0 else 1 := rfl
    by_cases c : st.2.2.2.1.2 = []
    · rw [if_pos c] at e; exact Or.inl ⟨c, e⟩
    · rw [if_neg c] at e
      refine Or.inr ⟨c, e, st.2.2.2.1.1.length, by omega, rfl, rfl, fun i hi2 => ?_⟩
      rw [hi _ (by omega), show 192 + st.2.2.2.1.1.length + i - 192 = st.2.2.2.1.1.length + i by omega, List.getD_eq_getElem?_getD, List.getD_eq_getElem?_getD, List.getElem?_append_right (by omega), show st.2.2.2.1.1.length + i - st.2.2.2.1.1.length = i by omega]
theorem af_sa {a : Row} {st : Tx} {b : Nat → Nat} {n : Nat} {h : Hp} (hn : n ≤ 900) (I : SI b n st) (ok : ∃ p, st.1 = .inl p) (A : AF a st) (C : CI b n h st) : SA h a := by
  obtain ⟨n1, n2⟩ := af_n I ok A
  obtain ⟨⟨a0, a1, a2, a3⟩, a4, a5, a6⟩ := A
  obtain ⟨⟨i1, i2, i3⟩, ⟨i4, i5⟩, _, i8, i9⟩ := I.2.2 ok
  have l := (rok_le I.1).2
  obtain ⟨T, S, C2⟩ := C
  obtain ⟨⟨c1, c2, c3, c4⟩, c5, c6, c7⟩ := C2 ok
  obtain ⟨p, hp⟩ := ok
  rw [hp] at S
  have s3 : gI h 4 3 = nI st.2.2.2.1.1.length := S.2.2.1
  have s4 : ∀ i, i < st.2.2.2.1.1.length → gI h 5 i = nI (cvC (st.2.2.2.1.1.getD i 0)) := S.2.2.2.1
  refine ⟨?_, c3.trans a2.symm, c4.trans a0.symm, fun r hr => ?_, ?_, ?_⟩
  · unfold npT at a1
    unfold miT at a3
    by_cases c : st.2.1.1 = 0
    · rw [if_pos c] at a1 a3
      rw [c] at c1
      exact Or.inl ⟨c1, a1, a3⟩
    · rw [if_neg c] at a1 a3
      refine Or.inr ⟨c1.trans a1.symm, ?_, c2.trans a3.symm⟩
      rw [c1]
      exact fun z => c ((nI_eq (a := st.2.1.1) (b := 0) (by omega) (by omega)).mp z)
  · rw [n2] at hr
    obtain ⟨u1, u2, u3⟩ := c5 r hr
    obtain ⟨v1, v2, v3⟩ := a4 r hr
    exact ⟨u1.trans v1.symm, u2.trans v2.symm, u3.trans v3.symm⟩
  · rcases a5 with ⟨z, e⟩ | ⟨ne, e, p, hp, e6, e8, hc⟩
    · rw [z] at s3
      exact Or.inl ⟨s3, e⟩
    · rcases i8 with z | ⟨_, o1, o2⟩
      · exact absurd z ne
      · exact Or.inr ⟨e, _, ne, by omega, s3, s4, o1, (codes_eq hp e6 e8 hc).symm, o2⟩
  · rcases a6 with ⟨z, e⟩ | ⟨ne, e, p, hp, e6, e8, hc⟩
    · rw [z] at c6
      exact Or.inl ⟨c6, e⟩
    · rcases i9 with z | ⟨_, o1, o2⟩
      · exact absurd z ne
      · exact Or.inr ⟨e, _, ne, by omega, c6, c7, o1, (codes_eq hp e6 e8 hc).symm, o2⟩
