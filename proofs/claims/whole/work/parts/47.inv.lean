/-! what holds between calls -/
def wlA (a : Row) (w p : Nat) : List Nat := (List.range 24).filter (fun e => (wys a w p).testBit e)
def pIA (a : Row) (w e : Nat) : Int := (ppA a w e).toInt
noncomputable def svA (a : Row) (w who : Nat) (X : Nat → List Nat) (p : Nat) : Int := sv (ttA a) (pIA a w) who X (nP a) p
def PLA (a : Row) (w who : Nat) : List (Nat → List Nat) := PLs (mnA a) (wlA a w) (nP a) who
def IsVal (a : Row) (w : Nat) (val : Nat → Int) : Prop := (∃ X, X ∈ PLA a w 1 ∧ ∀ p, p < nP a → svA a w 1 X p = val p) ∧ (∃ Y, Y ∈ PLA a w 0 ∧ ∀ p, p < nP a → svA a w 0 Y p = val p) ∧ (∀ X, X ∈ PLA a w 1 → ∀ p, p < nP a → svA a w 1 X p ≤ val p) ∧ (∀ Y, Y ∈ PLA a w 0 → ∀ p, p < nP a → val p ≤ svA a w 0 Y p)
/-- X is the first plan of who that is best from everywhere -/
def FB (a : Row) (w who : Nat) (val : Nat → Int) (X : Nat → List Nat) : Prop := ∃ l1 l2, PLA a w who = l1 ++ X :: l2 ∧ (∀ p, p < nP a → svA a w who X p = val p) ∧ ∀ Z, Z ∈ l1 → ¬ ∀ p, p < nP a → svA a w who Z p = val p
noncomputable def cntA (a : Row) (w who : Nat) (val : Nat → Int) (p : Nat) : Nat := ((PLA a w who).filter (fun X => decide (svA a w who X p = val p))).length
/-- the solved game, as the class keeps it -/
def GameR (h : Hp) (a : Row) (w : Nat) : Prop := ∃ val X1 X0, IsVal a w val ∧ FB a w 1 val X1 ∧ FB a w 0 val X0 ∧ ∀ p, p < nP a → gI h 82 p = Int32.ofInt (val p) ∧ gI h 84 p = nI (cntA a w 1 val p) ∧ gI h 85 p = nI (cntA a w 0 val p) ∧ ∀ e, (if mnA a p then X1 p else X0 p) = [e] → gI h 83 p = nI (tw e)
def stdM (h : Hp) : Row := fun k => gI h 99 (58 + k)
def segM (h : Hp) (i : Nat) : Row := fun k => gI h 99 (71 + 12 * i + k)
def rowI (h : Hp) (i : Nat) : Row := fun k => gI h 99 (1092 * (i + 1) + k)
def iLand (h : Hp) : Prop := LandOK (rowM h) ∧ Lnd h (rowM h)
def iStd (B : Int) (h : Hp) : Prop := StdOK (rowM h) (stdM h) B ∧ StdR h 20 21 (stdM h)
def iPast (B : Int) (h : Hp) : Prop := ∃ m nx, m ≤ 10 ∧ nx < 10 ∧ gI h 99 70 = nI m ∧ gI h 24 2 = nI m ∧ gI h 24 1 = nI nx ∧ ∀ i, i < m → StdOK (rowM h) (segM h i) B ∧ StdR h (26 + 2 * ((nx + 10 - m + i) % 10)) (27 + 2 * ((nx + 10 - m + i) % 10)) (segM h i)
def LndI (h : Hp) (i : Nat) (a : Row) : Prop := LndR h (56 + 6 * i) (57 + 6 * i) (58 + 6 * i) (59 + 6 * i) (60 + 6 * i) (61 + 6 * i) a
def iImg (B : Int) (h : Hp) : Prop := (∃ b, b < 4 ∧ gI h 0 15 = nI b ∧ ∀ i, i < 2 → (b.testBit i = true ↔ ¬ gI h 100 i = 0)) ∧ ∀ i, i < 2 → ¬ gI h 100 i = 0 → (LandOK (rowI h i) ∧ LndI h i (rowI h i)) ∧ StdOK (rowI h i) (fun k => rowI h i (58 + k)) B ∧ StdR h (69 + 2 * i) (70 + 2 * i) (fun k => rowI h i (58 + k))
def iTray (h : Hp) : Prop := ∀ t, t < 4 → (gI h 124 t = gI h (47 + 2 * t) 0 ∧ gI h 125 t = gI h (47 + 2 * t) 1 ∧ (gI h 124 t = -1 ∨ ∃ s, s < 4 ∧ gI h 124 t = nI s)) ∧ ∃ m, m ≤ 40 ∧ gI h 125 t = nI m ∧ ∀ k, k < m → gJ h 126 (40 * t + k) = gJ h (48 + 2 * t) k
/-- a byte's sign -/
def sgB (b : Nat) : Int32 := if b < 128 then nI b else nI b - 256
def iTape (h : Hp) : Prop := ∃ m, m ≤ 900 ∧ gI h 0 1 = nI m ∧ gI h 98 5 = nI m ∧ ∀ k, k < m → ∃ b, b < 256 ∧ gI h 101 k = nI b ∧ gI h 1 k = sgB b
def iFlt (h : Hp) : Prop := gI h 2 13 = gI h 98 13 ∧ gI h 2 14 = gI h 98 14
def iGame (h : Hp) : Prop := gI h 80 0 = -1 ∨ ∃ w, w < 10 ∧ gI h 80 0 = nI w ∧ GameR h (rowM h) w
def iGo (h : Hp) : Prop := gI h 90 0 = 0
def Inv (B : Int) (h : Hp) : Prop := iLand h ∧ iStd B h ∧ iPast B h ∧ iImg B h ∧ iTray h ∧ iTape h ∧ iFlt h ∧ iGame h ∧ iGo h
/-! preservation -/
theorem LndR_k {h h1 : Hp} {o f t l op ps : Nat} {a : Row} (R : LndR h o f t l op ps a) (k : ∀ x j, x = o ∨ x = f ∨ x = t ∨ x = l ∨ x = op ∨ x = ps → gI h1 x j = gI h x j) : LndR h1 o f t l op ps a := by
  obtain ⟨r1, r2, r3, r4, r5, r6, r7, r8⟩ := R
  refine ⟨?_, ?_, ?_, ?_, fun r hr => ⟨?_, ?_⟩, fun p hp => ?_, fun w hw => ?_, fun w r hw hr => ?_⟩
  · rw [k o 0 (by simp)]; exact r1
  · rw [k o 1 (by simp)]; exact r2
  · rw [k o 2 (by simp)]; exact r3
  · rw [k o 3 (by simp)]; exact r4
  · rw [k f r (by simp)]; exact (r5 r hr).1
  · rw [k t r (by simp)]; exact (r5 r hr).2
  · rw [k l p (by simp)]; exact r6 p hp
  · rw [k op w (by simp)]; exact r7 w hw
  · rw [k ps _ (by simp)]; exact r8 w r hw hr
theorem StdR_k {h h1 : Hp} {o pl : Nat} {s : Row} (R : StdR h o pl s) (k : ∀ x j, x = o ∨ x = pl → gI h1 x j = gI h x j) (kj : gJ h1 o 1 = gJ h o 1) : StdR h1 o pl s := by
  obtain ⟨r1, r2, r3, r4, r5⟩ := R
  refine ⟨?_, ?_, ?_, ?_, fun p hp => ?_⟩
  · rw [k o 0 (by simp)]; exact r1
  · rw [kj]; exact r2
  · rw [k o 2 (by simp)]; exact r3
  · rw [k o 3 (by simp)]; exact r4
  · rw [k pl p (by simp)]; exact r5 p hp
theorem StdOK_B {a s : Row} {B C : Int} (h : StdOK a s B) (hc : B ≤ C) : StdOK a s C := ⟨h.1, h.2.1, h.2.2.1, by have := h.2.2.2; omega⟩
theorem Inv_B {B C : Int} {h : Hp} (I : Inv B h) (hc : B ≤ C) : Inv C h := by
  obtain ⟨i1, i2, i3, i4, i5⟩ := I
  refine ⟨i1, ⟨StdOK_B i2.1 hc, i2.2⟩, ?_, ⟨i4.1, fun i hi hb => ?_⟩, i5⟩
  · obtain ⟨m, nx, a1, a2, a3, a4, a5, a6⟩ := i3
    exact ⟨m, nx, a1, a2, a3, a4, a5, fun i hi => ⟨StdOK_B (a6 i hi).1 hc, (a6 i hi).2⟩⟩
  · have := i4.2 i hi hb
    exact ⟨this.1, StdOK_B this.2.1 hc, this.2.2⟩
def sc2 : Nat → Nat → Bool := fun o k => (scC o k && !(o == 90 && k == 0)) || scM o k
theorem scM_2 (o k : Nat) (h : sc2 o k = false) : scM o k = false := by simp only [sc2, Bool.or_eq_false_iff] at h; exact h.2
theorem sc2_lo {o k : Nat} (h : o < 73) (h1 : o ≠ 22) (h2 : o ≠ 23) : sc2 o k = false := by
  have a1 : (o == 22) = false := by simp [h1]
  have a2 : (o == 23) = false := by simp [h2]
  have a3 : (o == 98) = false := by simp; omega
  have a4 : decide (73 ≤ o) = false := by simp; omega
  have a5 : decide (86 ≤ o) = false := by simp; omega
  have a6 : decide (102 ≤ o) = false := by simp; omega
  simp only [sc2, scC, scM, a1, a2, a3, a4, a5, a6, Bool.false_and, Bool.or_false]
theorem Inv_k {B : Int} {h h1 : Hp} (I : Inv B h) (F : Fp sc2 h h1) : Inv B h1 := by
  obtain ⟨⟨l1, l2⟩, ⟨s1, s2⟩, ⟨m, nx, p1, p2, p3, p4, p5, p6⟩, ⟨g1, g2⟩, i5, i6, i7, i8, i9⟩ := I
  have e99 : ∀ k, gI h1 99 k = gI h 99 k := fun k => F.1 99 k rfl
  have eR : rowM h1 = rowM h := funext (fun k => e99 k)
  have eS : stdM h1 = stdM h := funext (fun k => e99 _)
  have eG : ∀ i, segM h1 i = segM h i := fun i => funext (fun k => e99 _)
  have eI : ∀ i, rowI h1 i = rowI h i := fun i => funext (fun k => e99 _)
  have elo : ∀ o k, o < 73 → o ≠ 22 → o ≠ 23 → gI h1 o k = gI h o k := fun o k a b c => F.1 o k (sc2_lo a b c)
  have elj : ∀ o k, o < 73 → o ≠ 22 → o ≠ 23 → gJ h1 o k = gJ h o k := fun o k a b c => F.2 o k (sc2_lo a b c)
  refine ⟨⟨by rw [eR]; exact l1, by rw [eR]; exact LndR_k l2 (fun x j hx => elo x j (by omega) (by omega) (by omega))⟩, ⟨by rw [eR, eS]; exact s1, by rw [eS]; exact StdR_k s2 (fun x j hx => elo x j (by omega) (by omega) (by omega)) (elj 20 1 (by omega) (by omega) (by omega))⟩, ⟨m, nx, p1, p2, ?_, ?_, ?_, fun i hi => ?_⟩, ⟨?_, fun i hi hb => ?_⟩, fun t ht => ?_, ?_, ?_, ?_, ?_⟩
  · rw [e99]; exact p3
  · rw [elo 24 2 (by omega) (by omega) (by omega)]; exact p4
  · rw [elo 24 1 (by omega) (by omega) (by omega)]; exact p5
  · rw [eR, eG]
    have := Nat.mod_lt (nx + 10 - m + i) (show 0 < 10 by decide)
    exact ⟨(p6 i hi).1, StdR_k (p6 i hi).2 (fun x j hx => elo x j (by omega) (by omega) (by omega)) (elj _ 1 (by omega) (by omega) (by omega))⟩
  · obtain ⟨b, b1, b2, b3⟩ := g1
    refine ⟨b, b1, by rw [elo 0 15 (by omega) (by omega) (by omega)]; exact b2, fun i hi => ?_⟩
    rw [F.1 100 i rfl]; exact b3 i hi
  · rw [F.1 100 i rfl] at hb
    have := g2 i hi hb
    rw [eI]
    exact ⟨⟨this.1.1, LndR_k this.1.2 (fun x j hx => elo x j (by omega) (by omega) (by omega))⟩, this.2.1, StdR_k this.2.2 (fun x j hx => elo x j (by omega) (by omega) (by omega)) (elj _ 1 (by omega) (by omega) (by omega))⟩
  · obtain ⟨⟨t1, t2, t3⟩, q, q1, q2, q3⟩ := i5 t ht
    rw [F.1 124 t rfl, F.1 125 t rfl, elo (47 + 2 * t) 0 (by omega) (by omega) (by omega), elo (47 + 2 * t) 1 (by omega) (by omega) (by omega)]
    refine ⟨⟨t1, t2, t3⟩, q, q1, q2, fun k hk => ?_⟩
    rw [F.2 126 _ rfl, elj (48 + 2 * t) k (by omega) (by omega) (by omega)]
    exact q3 k hk
  · obtain ⟨q, q1, q2, q3, q4⟩ := i6
    refine ⟨q, q1, by rw [elo 0 1 (by omega) (by omega) (by omega)]; exact q2, by rw [F.1 98 5 rfl]; exact q3, fun k hk => ?_⟩
    rw [F.1 101 k rfl, elo 1 k (by omega) (by omega) (by omega)]
    exact q4 k hk
  · show gI h1 2 13 = gI h1 98 13 ∧ gI h1 2 14 = gI h1 98 14
    rw [elo 2 13 (by omega) (by omega) (by omega), elo 2 14 (by omega) (by omega) (by omega), F.1 98 13 rfl, F.1 98 14 rfl]
    exact i7
  · have e80 : gI h1 80 0 = gI h 80 0 := F.1 80 0 rfl
    rcases i8 with q | ⟨w, w1, w2, val, X1, X0, v1, v2, v3, v4⟩
    · exact Or.inl (e80.trans q)
    · refine Or.inr ⟨w, w1, e80.trans w2, val, X1, X0, by rw [eR]; exact v1, by rw [eR]; exact v2, by rw [eR]; exact v3, fun p hp => ?_⟩
      rw [eR] at hp
      rw [eR, F.1 82 p rfl, F.1 83 p rfl, F.1 84 p rfl, F.1 85 p rfl]
      exact v4 p hp
  · exact (F.1 90 0 rfl).trans i9
/-! a call answered alike by both, nothing kept changed -/
def Sim (B C : Int) (A : Hp → (Int32 → Hp → Prop) → Prop) (M : Hp → (Int32 → Hp → Prop) → Prop) : Prop := ∀ (h : Hp) (K : Hp → Prop), Inv B h → (∀ h2, Inv C h2 → K h2) → A h (fun r1 h1 => M h1 (fun r2 h2 => (r1 = r2 → K h2) ∧ (¬ r1 = r2 → False)))
def SimJ (B C : Int) (A : Hp → (Int64 → Hp → Prop) → Prop) (M : Hp → (Int64 → Hp → Prop) → Prop) : Prop := ∀ (h : Hp) (K : Hp → Prop), Inv B h → (∀ h2, Inv C h2 → K h2) → A h (fun r1 h1 => M h1 (fun r2 h2 => (r1 = r2 → K h2) ∧ (¬ r1 = r2 → False)))
theorem simEnd {α : Type} {v : α} {K : Prop} (k : K) : (v = v → K) ∧ (¬ v = v → False) := ⟨fun _ => k, fun q => q rfl⟩
/-- the scratch of the class alone, without the one cell that stays -/
def scD : Nat → Nat → Bool := fun o k => scC o k && !(o == 90 && k == 0)
theorem scD_2 (o k : Nat) (h : sc2 o k = false) : scD o k = false := by simp only [sc2, Bool.or_eq_false_iff] at h; exact h.1
theorem sim_q {B : Int} {h : Hp} {K : Hp → Prop} {A M : Hp → (Int32 → Hp → Prop) → Prop} (I : Inv B h) (k : ∀ h2, Inv B h2 → K h2) (v : Int32) (hA : ∀ Q : Int32 → Hp → Prop, (∀ h1, Fp scD h h1 → Q v h1) → A h Q) (hM : ∀ h1 (Q : Int32 → Hp → Prop), Inv B h1 → rowM h1 = rowM h → Fp scD h h1 → (∀ h2, Fp scM h1 h2 → Q v h2) → M h1 Q) : A h (fun r1 h1 => M h1 (fun r2 h2 => (r1 = r2 → K h2) ∧ (¬ r1 = r2 → False))) := by
  refine hA _ (fun h1 f1 => ?_)
  have I1 := Inv_k I (f1.mo scD_2)
  refine hM h1 _ I1 (funext (fun j => f1.1 99 j rfl)) f1 (fun h2 f2 => ?_)
  exact simEnd (k h2 (Inv_k I1 (f2.mo scM_2)))
theorem sim_qJ {B : Int} {h : Hp} {K : Hp → Prop} {A M : Hp → (Int64 → Hp → Prop) → Prop} (I : Inv B h) (k : ∀ h2, Inv B h2 → K h2) (v : Int64) (hA : ∀ Q : Int64 → Hp → Prop, (∀ h1, Fp scD h h1 → Q v h1) → A h Q) (hM : ∀ h1 (Q : Int64 → Hp → Prop), Inv B h1 → rowM h1 = rowM h → Fp scD h h1 → (∀ h2, Fp scM h1 h2 → Q v h2) → M h1 Q) : A h (fun r1 h1 => M h1 (fun r2 h2 => (r1 = r2 → K h2) ∧ (¬ r1 = r2 → False))) := by
  refine hA _ (fun h1 f1 => ?_)
  have I1 := Inv_k I (f1.mo scD_2)
  refine hM h1 _ I1 (funext (fun j => f1.1 99 j rfl)) f1 (fun h2 f2 => ?_)
  exact simEnd (k h2 (Inv_k I1 (f2.mo scM_2)))
