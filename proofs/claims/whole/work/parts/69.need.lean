/-! the purse that is needed -/
def alN (T v : Nat) (pay : Int) : Nat := if T ≤ v then T else min T (((v : Int) - pay).toNat)
section NEED
variable (W : Nat → Nat → Prop) (tt : Nat → Nat) (pp : Nat → Int) (mn : Nat → Bool)
def IsN (T : Nat) (f : Nat → Nat) (p v : Nat) : Prop := if mn p then (∀ e, W p e → v ≤ alN T (f (tt e)) (pp e)) ∧ ∃ e, W p e ∧ alN T (f (tt e)) (pp e) = v else (∀ e, W p e → alN T (f (tt e)) (pp e) ≤ v) ∧ ∃ e, W p e ∧ alN T (f (tt e)) (pp e) = v
theorem alN_le (T v : Nat) (pay : Int) : alN T v pay ≤ T := by unfold alN; split <;> omega
theorem alN_mono {T u v : Nat} {pay : Int} (h : u ≤ v) : alN T u pay ≤ alN T v pay := by unfold alN; split <;> split <;> omega
theorem IsN_mono {T P : Nat} (hW : ∀ p e, p < P → W p e → tt e < P) {f g : Nat → Nat} {p v u : Nat} (hp : p < P) (hfg : ∀ q, q < P → f q ≤ g q) (h1 : IsN W tt pp mn T f p v) (h2 : IsN W tt pp mn T g p u) : v ≤ u := by
  unfold IsN at h1 h2
  by_cases q : mn p = true
  · rw [if_pos q] at h1 h2
    obtain ⟨e, he, hu⟩ := h2.2
    have a := h1.1 e he
    have b := alN_mono (T := T) (pay := pp e) (hfg (tt e) (hW p e hp he))
    omega
  · rw [if_neg q] at h1 h2
    obtain ⟨e, he, hu⟩ := h1.2
    have a := h2.1 e he
    have b := alN_mono (T := T) (pay := pp e) (hfg (tt e) (hW p e hp he))
    omega
theorem IsN_le {T : Nat} {f : Nat → Nat} {p v : Nat} (h : IsN W tt pp mn T f p v) : v ≤ T := by
  unfold IsN at h
  by_cases q : mn p = true
  · rw [if_pos q] at h
    obtain ⟨e, he, hu⟩ := h.2
    rw [← hu]; exact alN_le _ _ _
  · rw [if_neg q] at h
    obtain ⟨e, he, hu⟩ := h.2
    rw [← hu]; exact alN_le _ _ _
def PreN (T P : Nat) (g : Nat → Nat) : Prop := ∀ p, p < P → g p ≤ T ∧ ∃ v, IsN W tt pp mn T g p v ∧ v ≤ g p
def LFN (T P : Nat) (f : Nat → Nat) : Prop := (∀ p, p < P → IsN W tt pp mn T f p (f p)) ∧ ∀ g, PreN W tt pp mn T P g → ∀ p, p < P → f p ≤ g p
theorem IsN_ex {T P : Nat} (hne : ∀ p, p < P → ∃ e, e < 24 ∧ W p e) (h24 : ∀ p e, p < P → W p e → e < 24) (f : Nat → Nat) {p : Nat} (hp : p < P) : ∃ v, IsN W tt pp mn T f p v := by
  obtain ⟨e0, h0, w0⟩ := hne p hp
  obtain ⟨e1, a1, a2, a3⟩ := list_mn (fun e => ((alN T (f (tt e)) (pp e) : Nat) : Int)) (fun e => W p e) (List.range 24) ⟨e0, List.mem_range.mpr h0, w0⟩
  obtain ⟨e2, b1, b2, b3⟩ := list_mn (fun e => -((alN T (f (tt e)) (pp e) : Nat) : Int)) (fun e => W p e) (List.range 24) ⟨e0, List.mem_range.mpr h0, w0⟩
  unfold IsN
  by_cases q : mn p = true
  · simp only [if_pos q]
    exact ⟨_, fun e he => by have := a3 e (List.mem_range.mpr (h24 p e hp he)) he; omega, e1, a2, rfl⟩
  · simp only [if_neg q]
    exact ⟨_, fun e he => by have := b3 e (List.mem_range.mpr (h24 p e hp he)) he; omega, e2, b2, rfl⟩
/-- no gap -/
theorem no_gap {T P : Nat} {f : Nat → Nat} (hne : ∀ p, p < P → ∃ e, e < 24 ∧ W p e) (h24 : ∀ p e, p < P → W p e → e < 24) (hW : ∀ p e, p < P → W p e → tt e < P) (hpp : ∀ e, -99 ≤ pp e ∧ pp e ≤ 99) (L : LFN W tt pp mn T P f) (z : Nat) (hz : ∃ p, p < P ∧ z ≤ f p ∧ f p < T) : ∃ p, p < P ∧ z ≤ f p ∧ f p < z + 99 := by
  apply Classical.byContradiction
  intro hno
  have hg : ∀ p, p < P → z ≤ f p → z + 99 ≤ f p := fun p hp h1 => by
    rcases Nat.lt_or_ge (f p) (z + 99) with q | q
    · exact absurd ⟨p, hp, h1, q⟩ hno
    · exact q
  obtain ⟨p0, hp0, h1, h2⟩ := hz
  have pre : PreN W tt pp mn T P (fun p => if z ≤ f p ∧ f p < T then f p - 1 else f p) := by
    intro p hp
    have fx := L.1 p hp
    have fT := IsN_le W tt pp mn fx
    refine ⟨by dsimp only; split <;> omega, ?_⟩
    obtain ⟨v, hv⟩ := IsN_ex W tt pp mn (T := T) hne h24 (fun p => if z ≤ f p ∧ f p < T then f p - 1 else f p) hp
    refine ⟨v, hv, ?_⟩
    have mono : v ≤ f p := IsN_mono W tt pp mn hW hp (fun q _ => by split <;> omega) hv fx
    dsimp only
    by_cases c : z ≤ f p ∧ f p < T
    · rw [if_pos c]
      have h99 := hg p hp c.1
      unfold IsN at hv fx
      by_cases q : mn p = true
      · rw [if_pos q] at hv fx
        obtain ⟨e, he, hu⟩ := fx.2
        have a := hv.1 e he
        have pe := hpp e
        have ht := hg (tt e) (hW p e hp he)
        have : alN T (if z ≤ f (tt e) ∧ f (tt e) < T then f (tt e) - 1 else f (tt e)) (pp e) ≤ f p - 1 := by
          unfold alN at hu ⊢
          by_cases d : T ≤ f (tt e)
          · rw [if_pos d] at hu; omega
          · rw [if_neg d] at hu
            have hin : z ≤ f (tt e) ∧ f (tt e) < T := by omega
            rw [if_pos hin, if_neg (by omega)]
            omega
        have a : v ≤ alN T (if z ≤ f (tt e) ∧ f (tt e) < T then f (tt e) - 1 else f (tt e)) (pp e) := a
        omega
      · rw [if_neg q] at hv fx
        obtain ⟨e, he, hu⟩ := hv.2
        have a := fx.1 e he
        have pe := hpp e
        have hu : alN T (if z ≤ f (tt e) ∧ f (tt e) < T then f (tt e) - 1 else f (tt e)) (pp e) = v := hu
        unfold alN at hu a
        by_cases d : T ≤ f (tt e)
        · rw [if_pos d] at a; omega
        · rw [if_neg d] at a
          by_cases hin : z ≤ f (tt e) ∧ f (tt e) < T
          · have ht := hg (tt e) (hW p e hp he) hin.1
            rw [if_pos hin, if_neg (by omega)] at hu; omega
          · rw [if_neg hin, if_neg d] at hu; omega
    · rw [if_neg c]; exact mono
  have := L.2 _ pre p0 hp0
  rw [if_pos ⟨h1, h2⟩] at this
  have := hg p0 hp0 h1
  omega
theorem fin_bd {T P : Nat} {f : Nat → Nat} (hP : P ≤ 8) (hne : ∀ p, p < P → ∃ e, e < 24 ∧ W p e) (h24 : ∀ p e, p < P → W p e → e < 24) (hW : ∀ p e, p < P → W p e → tt e < P) (hpp : ∀ e, -99 ≤ pp e ∧ pp e ≤ 99) (L : LFN W tt pp mn T P f) {p : Nat} (hp : p < P) (hf : f p < T) : f p < 792 := by
  rcases Nat.lt_or_ge (f p) 792 with q | q
  · exact q
  · have ex : ∀ k, ∃ r, k < 8 → r < P ∧ 99 * k ≤ f r ∧ f r < 99 * k + 99 := fun k => by
      by_cases hk : k < 8
      · obtain ⟨r, h1, h2, h3⟩ := no_gap W tt pp mn hne h24 hW hpp L (99 * k) ⟨p, hp, by omega, hf⟩
        exact ⟨r, fun _ => ⟨h1, h2, h3⟩⟩
      · exact ⟨0, fun h => absurd h hk⟩
    obtain ⟨r, hr⟩ := Classical.axiomOfChoice ex
    obtain ⟨i, j, hij, hj, he⟩ := php 8 (fun k => if k < 8 then r k else p) (fun k hk => by
      by_cases h : k < 8
      · simp only [if_pos h]; have := (hr k h).1; omega
      · simp only [if_neg h]; omega)
    have hi : i < 8 := by omega
    simp only [if_pos hi] at he
    have a := hr i hi
    by_cases h : j < 8
    · simp only [if_pos h] at he
      have b := hr j h
      rw [he] at a
      omega
    · simp only [if_neg h] at he
      rw [he] at a
      omega
/-- two bounds, one answer -/
theorem two_bd {P : Nat} {f g : Nat → Nat} (hP : P ≤ 8) (hne : ∀ p, p < P → ∃ e, e < 24 ∧ W p e) (h24 : ∀ p e, p < P → W p e → e < 24) (hW : ∀ p e, p < P → W p e → tt e < P) (hpp : ∀ e, -99 ≤ pp e ∧ pp e ≤ 99) (L1 : LFN W tt pp mn 792 P f) (L2 : LFN W tt pp mn 801 P g) {p : Nat} (hp : p < P) : (f p < 792 ∧ g p = f p) ∨ (f p = 792 ∧ g p = 801) := by
  have fT : ∀ q, q < P → f q ≤ 792 := fun q hq => IsN_le W tt pp mn (L1.1 q hq)
  have gT : ∀ q, q < P → g q ≤ 801 := fun q hq => IsN_le W tt pp mn (L2.1 q hq)
  have gb : ∀ q, q < P → g q < 801 → g q < 792 := fun q hq h => fin_bd W tt pp mn hP hne h24 hW hpp L2 hq h
  have pre1 : PreN W tt pp mn 792 P (fun q => if g q < 801 then g q else 792) := by
    intro q hq
    have b := gb q hq
    refine ⟨by dsimp only; split <;> omega, ?_⟩
    obtain ⟨v, hv⟩ := IsN_ex W tt pp mn (T := 792) hne h24 (fun q => if g q < 801 then g q else 792) hq
    refine ⟨v, hv, ?_⟩
    dsimp only
    by_cases c : g q < 801
    · rw [if_pos c]
      have fx := L2.1 q hq
      unfold IsN at hv fx
      have key : ∀ e, W q e → alN 801 (g (tt e)) (pp e) ≤ g q → alN 792 (if g (tt e) < 801 then g (tt e) else 792) (pp e) ≤ g q := by
        intro e he h
        have b2 := gb (tt e) (hW q e hq he)
        unfold alN at h ⊢
        by_cases d : 801 ≤ g (tt e)
        · rw [if_pos d] at h; omega
        · rw [if_neg d] at h
          have e1 : (if g (tt e) < 801 then g (tt e) else 792) = g (tt e) := if_pos (by omega)
          rw [e1, if_neg (by omega)]
          omega
      by_cases m : mn q = true
      · rw [if_pos m] at hv fx
        obtain ⟨e, he, hu⟩ := fx.2
        have h1 : v ≤ alN 792 (if g (tt e) < 801 then g (tt e) else 792) (pp e) := hv.1 e he
        have := key e he (by omega)
        omega
      · rw [if_neg m] at hv fx
        obtain ⟨e, he, hu⟩ := hv.2
        have hu : alN 792 (if g (tt e) < 801 then g (tt e) else 792) (pp e) = v := hu
        have := key e he (fx.1 e he)
        omega
    · rw [if_neg c]; exact IsN_le W tt pp mn hv
  have pre2 : PreN W tt pp mn 801 P (fun q => if f q < 792 then f q else 801) := by
    intro q hq
    refine ⟨by dsimp only; split <;> omega, ?_⟩
    obtain ⟨v, hv⟩ := IsN_ex W tt pp mn (T := 801) hne h24 (fun q => if f q < 792 then f q else 801) hq
    refine ⟨v, hv, ?_⟩
    dsimp only
    by_cases c : f q < 792
    · rw [if_pos c]
      have fx := L1.1 q hq
      unfold IsN at hv fx
      have key : ∀ e, W q e → alN 792 (f (tt e)) (pp e) ≤ f q → alN 801 (if f (tt e) < 792 then f (tt e) else 801) (pp e) ≤ f q := by
        intro e he h
        unfold alN at h ⊢
        by_cases d : 792 ≤ f (tt e)
        · rw [if_pos d] at h; omega
        · rw [if_neg d] at h
          have e1 : (if f (tt e) < 792 then f (tt e) else 801) = f (tt e) := if_pos (by omega)
          rw [e1, if_neg (by omega)]
          omega
      by_cases m : mn q = true
      · rw [if_pos m] at hv fx
        obtain ⟨e, he, hu⟩ := fx.2
        have h1 : v ≤ alN 801 (if f (tt e) < 792 then f (tt e) else 801) (pp e) := hv.1 e he
        have := key e he (by omega)
        omega
      · rw [if_neg m] at hv fx
        obtain ⟨e, he, hu⟩ := hv.2
        have hu : alN 801 (if f (tt e) < 792 then f (tt e) else 801) (pp e) = v := hu
        have := key e he (fx.1 e he)
        omega
    · rw [if_neg c]; exact IsN_le W tt pp mn hv
  have a := L1.2 _ pre1 p hp
  have b := L2.2 _ pre2 p hp
  have c1 := fT p hp
  have c2 := gT p hp
  have c3 := gb p hp
  by_cases q : f p < 792
  · rw [if_pos q] at b
    left
    refine ⟨q, ?_⟩
    rw [if_pos (by omega)] at a
    omega
  · right
    refine ⟨by omega, ?_⟩
    by_cases r : g p < 801
    · rw [if_pos r] at a
      have := c3 r
      omega
    · omega
/-- raising, place by place -/
def RsN (T P : Nat) (f : Nat → Nat) : Prop := (∀ p, p < P → f p ≤ T) ∧ (∀ p, p < P → ∀ v, IsN W tt pp mn T f p v → f p ≤ v) ∧ ∀ g, PreN W tt pp mn T P g → ∀ p, p < P → f p ≤ g p
def upN (f : Nat → Nat) (p v : Nat) : Nat → Nat := fun q => if q = p then v else f q
theorem RsN_up {T P : Nat} (hW : ∀ p e, p < P → W p e → tt e < P) {f : Nat → Nat} {p v : Nat} (hp : p < P) (R : RsN W tt pp mn T P f) (hv : IsN W tt pp mn T f p v) : RsN W tt pp mn T P (upN f p v) ∧ f p ≤ v := by
  have up := R.2.1 p hp v hv
  have ge : ∀ q, f q ≤ upN f p v q := fun q => by
    unfold upN
    by_cases e : q = p
    · rw [if_pos e, e]; exact up
    · rw [if_neg e]; exact Nat.le_refl _
  refine ⟨⟨fun q hq => ?_, fun q hq u hu => ?_, fun g hg q hq => ?_⟩, up⟩
  · unfold upN
    by_cases e : q = p
    · rw [if_pos e]; exact IsN_le W tt pp mn hv
    · rw [if_neg e]; exact R.1 q hq
  · unfold upN
    by_cases e : q = p
    · rw [if_pos e]; subst e
      exact IsN_mono W tt pp mn hW hq (fun x _ => ge x) hv hu
    · rw [if_neg e]
      apply Classical.byContradiction
      intro hlt
      have hlt : u < f q := by omega
      -- the value by f is not greater
      have : ∀ u', IsN W tt pp mn T f q u' → u' ≤ u := fun u' h' => IsN_mono W tt pp mn hW hq (fun x _ => ge x) h' hu
      have ex : ∃ u', IsN W tt pp mn T f q u' := by
        unfold IsN at hu ⊢
        by_cases m : mn q = true
        · simp only [if_pos m] at hu ⊢
          obtain ⟨e0, w0, _⟩ := hu.2
          obtain ⟨k, ⟨e1, a1, a2⟩, kl⟩ := pk_least (fun k => ∃ e, W q e ∧ alN T (f (tt e)) (pp e) = k) ⟨_, e0, w0, rfl⟩
          refine ⟨k, fun e he => ?_, e1, a1, a2⟩
          rcases Nat.lt_or_ge (alN T (f (tt e)) (pp e)) k with c | c
          · exact absurd ⟨e, he, rfl⟩ (kl _ c)
          · exact c
        · simp only [if_neg m] at hu ⊢
          obtain ⟨e0, w0, _⟩ := hu.2
          obtain ⟨k, ⟨e1, a1, a2⟩, kl⟩ := pk_least (fun k => ∃ e, W q e ∧ T - alN T (f (tt e)) (pp e) = k) ⟨_, e0, w0, rfl⟩
          refine ⟨alN T (f (tt e1)) (pp e1), fun e he => ?_, e1, a1, rfl⟩
          have b1 := alN_le T (f (tt e)) (pp e)
          have b2 := alN_le T (f (tt e1)) (pp e1)
          rcases Nat.lt_or_ge (T - alN T (f (tt e)) (pp e)) k with c | c
          · exact absurd ⟨e, he, rfl⟩ (kl _ c)
          · omega
      obtain ⟨u', h'⟩ := ex
      have := this u' h'
      have := R.2.1 q hq u' h'
      omega
  · unfold upN
    by_cases e : q = p
    · rw [if_pos e]; subst e
      obtain ⟨_, x, hx, hx2⟩ := hg q hq
      exact Nat.le_trans (IsN_mono W tt pp mn hW hq (fun y hy => R.2.2 g hg y hy) hv hx) hx2
    · rw [if_neg e]; exact R.2.2 g hg q hq
theorem RsN_0 {T P : Nat} : RsN W tt pp mn T P (fun _ => 0) := ⟨fun _ _ => Nat.zero_le _, fun _ _ _ _ => Nat.zero_le _, fun _ _ _ _ => Nat.zero_le _⟩
end NEED
def smN (f : Nat → Nat) : Nat → Nat
  | 0 => 0
  | n + 1 => smN f n + f n
theorem smN_le {f : Nat → Nat} {T : Nat} : ∀ {n : Nat}, (∀ p, p < n → f p ≤ T) → smN f n ≤ n * T
  | 0, _ => by show 0 ≤ 0 * T; omega
  | n + 1, h => by
    have := smN_le (f := f) (T := T) (n := n) (fun p hp => h p (by omega))
    have := h n (by omega)
    show smN f n + f n ≤ (n + 1) * T
    rw [Nat.succ_mul]; omega
theorem smN_mono {f g : Nat → Nat} : ∀ {n : Nat}, (∀ p, p < n → f p ≤ g p) → smN f n ≤ smN g n ∧ ((∃ p, p < n ∧ f p < g p) → smN f n < smN g n)
  | 0, _ => ⟨Nat.le_refl _, fun ⟨p, h, _⟩ => absurd h (by omega)⟩
  | n + 1, h => by
    obtain ⟨a, b⟩ := smN_mono (f := f) (g := g) (n := n) (fun p hp => h p (by omega))
    have c := h n (by omega)
    refine ⟨by show smN f n + f n ≤ smN g n + g n; omega, fun ⟨p, hp, hl⟩ => ?_⟩
    show smN f n + f n < smN g n + g n
    by_cases e : p = n
    · subst e; omega
    · have := b ⟨p, by omega, hl⟩; omega
