/-! games on roads: who can keep a mean (by potentials, by the number of edges) -/
theorem cnt_le {α : Type} (p q : α → Bool) : ∀ (l : List α), (∀ x ∈ l, p x = true → q x = true) → (l.filter p).length ≤ (l.filter q).length
  | [], _ => Nat.le_refl _
  | x :: l, h => by
    have ih := cnt_le p q l (fun y hy => h y (List.mem_cons_of_mem _ hy))
    have hx := h x List.mem_cons_self
    rw [List.filter_cons, List.filter_cons]
    cases hp : p x
    · cases hq : q x
      · simpa using ih
      · simp; omega
    · rw [hx hp]; simpa using ih
theorem cnt_lt {α : Type} (p q : α → Bool) : ∀ (l : List α), (∀ x ∈ l, p x = true → q x = true) → (∃ x ∈ l, q x = true ∧ p x = false) → (l.filter p).length < (l.filter q).length
  | [], _, h => by obtain ⟨x, hx, _⟩ := h; cases hx
  | y :: l, h, hex => by
    have il := cnt_le p q l (fun z hz => h z (List.mem_cons_of_mem _ hz))
    rw [List.filter_cons, List.filter_cons]
    cases hq : q y
    · have hp : p y = false := by
        cases hp : p y
        · rfl
        · rw [h y List.mem_cons_self hp] at hq; cases hq
      rw [hp]
      obtain ⟨x, hx, h1, h2⟩ := hex
      rcases List.mem_cons.mp hx with rfl | hx
      · rw [hq] at h1; cases h1
      · simpa using cnt_lt p q l (fun z hz => h z (List.mem_cons_of_mem _ hz)) ⟨x, hx, h1, h2⟩
    · cases hp : p y
      · simp; omega
      · obtain ⟨x, hx, h1, h2⟩ := hex
        rcases List.mem_cons.mp hx with rfl | hx
        · rw [hp] at h2; cases h2
        · simpa using cnt_lt p q l (fun z hz => h z (List.mem_cons_of_mem _ hz)) ⟨x, hx, h1, h2⟩
theorem php : ∀ (n : Nat) (f : Nat → Nat), (∀ i, i ≤ n → f i < n) → ∃ i j, i < j ∧ j ≤ n ∧ f i = f j
  | 0, f, h => absurd (h 0 (Nat.le_refl 0)) (by omega)
  | n + 1, f, h => by
    by_cases e : ∃ i, i < n + 1 ∧ f i = f (n + 1)
    · obtain ⟨i, h1, h2⟩ := e
      exact ⟨i, n + 1, h1, Nat.le_refl _, h2⟩
    · have hn : ∀ i, i < n + 1 → f i ≠ f (n + 1) := fun i hi q => e ⟨i, hi, q⟩
      have hl := h (n + 1) (Nat.le_refl _)
      obtain ⟨i, j, h1, h2, h3⟩ := php n (fun i => if f i > f (n + 1) then f i - 1 else f i) (fun i hi => by
        have a := h i (by omega)
        have b := hn i (by omega)
        show (if f i > f (n + 1) then f i - 1 else f i) < n
        split <;> omega)
      refine ⟨i, j, h1, by omega, ?_⟩
      have a := hn i (by omega)
      have b := hn j (by omega)
      have h3 : (if f i > f (n + 1) then f i - 1 else f i) = (if f j > f (n + 1) then f j - 1 else f j) := h3
      split at h3 <;> split at h3 <;> omega
def mnI (g : Nat → Int) : Nat → Int
  | 0 => g 0
  | k + 1 => if g (k + 1) < mnI g k then g (k + 1) else mnI g k
theorem mnI_le (g : Nat → Int) : ∀ k m, m ≤ k → mnI g k ≤ g m
  | 0, m, h => by rw [show m = 0 by omega]; exact Int.le_refl _
  | k + 1, m, h => by
    have ih := mnI_le g k
    unfold mnI
    rcases Nat.lt_or_ge m (k + 1) with q | q
    · have := ih m (by omega)
      split <;> omega
    · rw [show m = k + 1 by omega]
      split <;> omega
theorem mnI_ex (g : Nat → Int) : ∀ k, ∃ m, m ≤ k ∧ mnI g k = g m
  | 0 => ⟨0, Nat.le_refl _, rfl⟩
  | k + 1 => by
    obtain ⟨m, h1, h2⟩ := mnI_ex g k
    unfold mnI
    by_cases q : g (k + 1) < mnI g k
    · exact ⟨k + 1, Nat.le_refl _, if_pos q⟩
    · exact ⟨m, by omega, (if_neg q).trans h2⟩
theorem bdI (f : Nat → Nat → Int) (M : Nat) : ∀ N, ∃ K : Int, 0 ≤ K ∧ ∀ u e, u < N → e < M → f u e ≤ K
  | 0 => ⟨0, Int.le_refl _, fun u e h => absurd h (by omega)⟩
  | N + 1 => by
    obtain ⟨K, h0, h1⟩ := bdI f M N
    have hrow : ∀ m, ∃ K2 : Int, ∀ e, e < m → f N e ≤ K2 := by
      intro m
      induction m with
      | zero => exact ⟨0, fun e h => absurd h (by omega)⟩
      | succ m ih =>
        obtain ⟨K2, h2⟩ := ih
        refine ⟨max K2 (f N m), fun e he => ?_⟩
        rcases Nat.lt_or_ge e m with q | q
        · have := h2 e q; omega
        · rw [show e = m by omega]; omega
    obtain ⟨K2, h2⟩ := hrow M
    refine ⟨max K K2, by omega, fun u e hu he => ?_⟩
    rcases Nat.lt_or_ge u N with q | q
    · have := h1 u e q he; omega
    · rw [show u = N by omega]; have := h2 e he; omega
section GAMES
variable (tg : Nat → Nat → Nat)
def gOK (V : Nat → Bool) (E : Nat → Nat → Bool) : Prop :=
  (∀ u e, E u e = true → V u = true ∧ e < 24 ∧ V (tg u e) = true) ∧ ∀ u, V u = true → u < 8 ∧ ∃ e, E u e = true
def gWin (me : Nat → Bool) (c : Nat → Nat → Int) (V : Nat → Bool) (E : Nat → Nat → Bool) (W : Nat → Bool) : Prop :=
  ∃ (s : Nat → Nat) (p : Nat → Int), ∀ u, W u = true → V u = true ∧
    (me u = true → E u (s u) = true ∧ W (tg u (s u)) = true ∧ p u ≤ c u (s u) + p (tg u (s u))) ∧
    (me u = false → ∀ e, E u e = true → W (tg u e) = true ∧ p u ≤ c u e + p (tg u e))
def ecn (E : Nat → Nat → Bool) : Nat := ((List.range 192).filter (fun k => E (k / 24) (k % 24))).length
theorem ecn_lt {E E' : Nat → Nat → Bool} (h : ∀ u e, E' u e = true → E u e = true) {u e : Nat} (hu : u < 8) (he : e < 24) (h1 : E u e = true) (h2 : E' u e = false) : ecn E' < ecn E := by
  refine cnt_lt _ _ _ (fun x _ q => h _ _ q) ⟨24 * u + e, List.mem_range.mpr (by omega), ?_, ?_⟩
  · show E ((24 * u + e) / 24) ((24 * u + e) % 24) = true
    rw [show (24 * u + e) / 24 = u by omega, show (24 * u + e) % 24 = e by omega]; exact h1
  · show E' ((24 * u + e) / 24) ((24 * u + e) % 24) = false
    rw [show (24 * u + e) / 24 = u by omega, show (24 * u + e) % 24 = e by omega]; exact h2
/-- along the ways f: where one is, what was gained -/
def gorb (f : Nat → Nat) : Nat → Nat → Nat
  | 0, x => x
  | k + 1, x => gorb f k (tg x (f x))
def gsum (f : Nat → Nat) (c : Nat → Nat → Int) : Nat → Nat → Int
  | 0, _ => 0
  | k + 1, x => c x (f x) + gsum f c k (tg x (f x))
theorem gorb_s (f : Nat → Nat) : ∀ k x, gorb tg f (k + 1) x = tg (gorb tg f k x) (f (gorb tg f k x))
  | 0, _ => rfl
  | k + 1, x => gorb_s f k (tg x (f x))
theorem gorb_add (f : Nat → Nat) : ∀ j k x, gorb tg f (j + k) x = gorb tg f k (gorb tg f j x)
  | 0, k, x => by rw [Nat.zero_add]; rfl
  | j + 1, k, x => by
    rw [show j + 1 + k = (j + k) + 1 by omega]
    exact gorb_add f j k (tg x (f x))
theorem gsum_s (f : Nat → Nat) (c : Nat → Nat → Int) : ∀ k x, gsum tg f c (k + 1) x = gsum tg f c k x + c (gorb tg f k x) (f (gorb tg f k x))
  | 0, x => by show c x (f x) + 0 = 0 + c x (f x); omega
  | k + 1, x => by
    have := gsum_s f c k (tg x (f x))
    show c x (f x) + gsum tg f c (k + 1) (tg x (f x)) = (c x (f x) + gsum tg f c k (tg x (f x))) + _
    rw [this]
    show _ = c x (f x) + gsum tg f c k (tg x (f x)) + c (gorb tg f k (tg x (f x))) (f (gorb tg f k (tg x (f x))))
    omega
/-- a ring is good for one or for the other -/
def gHC (c1 c2 : Nat → Nat → Int) : Prop := ∀ f x k, 1 ≤ k → k ≤ 8 → gorb tg f k x = x → 0 ≤ gsum tg f c1 k x ∨ 0 ≤ gsum tg f c2 k x
theorem gring {me : Nat → Bool} {c : Nat → Nat → Int} {V : Nat → Bool} {E : Nat → Nat → Bool} (hG : gOK tg V E) {f : Nat → Nat} (hf : ∀ u, V u = true → E u (f u) = true) (hu : ∀ u e, E u e = true → e = f u) {x k : Nat} (hx : V x = true) (hk : 1 ≤ k) (hr : gorb tg f k x = x) (hs : 0 ≤ gsum tg f c k x) : ∃ W, gWin tg me c V E W ∧ ∃ u, W u = true := by
  have hV : ∀ i, V (gorb tg f i x) = true := by
    intro i
    induction i with
    | zero => exact hx
    | succ i ih => rw [gorb_s]; exact (hG.1 _ _ (hf _ ih)).2.2
  have hrot : ∀ i, gorb tg f k (gorb tg f i x) = gorb tg f i x := by
    intro i
    rw [← gorb_add, Nat.add_comm, gorb_add, hr]
  have hsr : ∀ i, gsum tg f c k (gorb tg f i x) = gsum tg f c k x := by
    intro i
    induction i with
    | zero => rfl
    | succ i ih =>
      have a : gsum tg f c (k + 1) (gorb tg f i x) = c (gorb tg f i x) (f (gorb tg f i x)) + gsum tg f c k (tg (gorb tg f i x) (f (gorb tg f i x))) := rfl
      have b := gsum_s tg f c k (gorb tg f i x)
      rw [hrot] at b
      rw [gorb_s]
      omega
  refine ⟨fun u => @decide (∃ i, gorb tg f i x = u) (Classical.propDecidable _), ⟨f, fun u => mnI (fun m => gsum tg f c m u) k, fun u hW => ?_⟩, x, by simp only [decide_eq_true_eq]; exact ⟨0, rfl⟩⟩
  simp only [decide_eq_true_eq] at hW
  obtain ⟨i, rfl⟩ := hW
  have key : mnI (fun m => gsum tg f c m (gorb tg f i x)) k ≤ c (gorb tg f i x) (f (gorb tg f i x)) + mnI (fun m => gsum tg f c m (tg (gorb tg f i x) (f (gorb tg f i x)))) k := by
    obtain ⟨m, hm, em⟩ := mnI_ex (fun m => gsum tg f c m (tg (gorb tg f i x) (f (gorb tg f i x)))) k
    rw [em]
    show _ ≤ gsum tg f c (m + 1) (gorb tg f i x)
    rcases Nat.lt_or_ge m k with q | q
    · exact mnI_le (fun m => gsum tg f c m (gorb tg f i x)) k (m + 1) (by omega)
    · rw [show m = k by omega, gsum_s, hrot]
      have h1 := mnI_le (fun m => gsum tg f c m (gorb tg f i x)) k 1 hk
      have h2 : gsum tg f c 1 (gorb tg f i x) = c (gorb tg f i x) (f (gorb tg f i x)) + 0 := rfl
      have h3 := hsr i
      omega
  have inW : @decide (∃ i', gorb tg f i' x = tg (gorb tg f i x) (f (gorb tg f i x))) (Classical.propDecidable _) = true := by
    simp only [decide_eq_true_eq]
    exact ⟨i + 1, gorb_s tg f i x⟩
  refine ⟨hV i, fun _ => ⟨hf _ (hV i), inW, key⟩, fun _ e he => ?_⟩
  rw [hu _ _ he]
  exact ⟨inW, key⟩
theorem gmerge {me : Nat → Bool} {c : Nat → Nat → Int} {V : Nat → Bool} {E EA EB : Nat → Nat → Bool} {v : Nat} (hG : gOK tg V E) (hv : me v = false) (hA : ∀ u e, u ≠ v → (EA u e = E u e ∧ EB u e = E u e)) (hAB : ∀ e, E v e = true → EA v e = true ∨ EB v e = true)
    (h1 : gWin tg me c V EA V) (h2 : gWin tg me c V EB V) : gWin tg me c V E V := by
  obtain ⟨sA, pA, hA1⟩ := h1
  obtain ⟨sB, pB, hB1⟩ := h2
  refine ⟨fun u => if pA u - pA v < pB u - pB v then sB u else sA u, fun u => max (pA u - pA v) (pB u - pB v), fun u hu => ⟨hu, fun hm => ?_, fun hm e he => ?_⟩⟩
  · have hne : u ≠ v := fun q => by rw [q, hv] at hm; cases hm
    have a := (hA1 u hu).2.1 hm
    have b := (hB1 u hu).2.1 hm
    rw [(hA u _ hne).1] at a
    rw [(hA u _ hne).2] at b
    by_cases q : pA u - pA v < pB u - pB v
    · simp only [if_pos q]
      exact ⟨b.1, b.2.1, by have := b.2.2; omega⟩
    · simp only [if_neg q]
      exact ⟨a.1, a.2.1, by have := a.2.2; omega⟩
  · by_cases hne : u = v
    · subst hne
      refine ⟨(hG.1 u e he).2.2, ?_⟩
      show max (pA u - pA u) (pB u - pB u) ≤ c u e + max (pA (tg u e) - pA u) (pB (tg u e) - pB u)
      rcases hAB e he with q | q
      · have := ((hA1 u hu).2.2 hm e q).2; omega
      · have := ((hB1 u hu).2.2 hm e q).2; omega
    · have a := ((hA1 u hu).2.2 hm e ((hA u e hne).1.trans he)).2
      have b := ((hB1 u hu).2.2 hm e ((hA u e hne).2.trans he)).2
      refine ⟨(hG.1 u e he).2.2, ?_⟩
      show max (pA u - pA v) (pB u - pB v) ≤ c u e + max (pA (tg u e) - pA v) (pB (tg u e) - pB v)
      omega
def gDet (me : Nat → Bool) (c1 c2 : Nat → Nat → Int) (V : Nat → Bool) (E : Nat → Nat → Bool) : Prop := ∃ W, gWin tg me c1 V E W ∧ gWin tg (fun u => !me u) c2 V E (fun u => V u && !W u)
theorem gWin_c {me : Nat → Bool} {c : Nat → Nat → Int} {V : Nat → Bool} {E : Nat → Nat → Bool} {W W' : Nat → Bool} (h : gWin tg me c V E W) (e : ∀ u, W u = W' u) : gWin tg me c V E W' := by
  rw [← funext e]; exact h
theorem gWin_nn {me : Nat → Bool} {c : Nat → Nat → Int} {V : Nat → Bool} {E : Nat → Nat → Bool} {W : Nat → Bool} (h : gWin tg (fun u => !(!me u)) c V E W) : gWin tg me c V E W := by
  have e : (fun u => !(!me u)) = me := funext (fun u => Bool.not_not _)
  rw [e] at h; exact h
theorem gDet_sw {me : Nat → Bool} {c1 c2 : Nat → Nat → Int} {V : Nat → Bool} {E : Nat → Nat → Bool} (h : gDet tg (fun u => !me u) c2 c1 V E) : gDet tg me c1 c2 V E := by
  obtain ⟨W, h1, h2⟩ := h
  refine ⟨fun u => V u && !W u, gWin_nn tg h2, gWin_c tg h1 (fun u => ?_)⟩
  cases hV : V u
  · cases hW : W u
    · rfl
    · obtain ⟨s, p, hh⟩ := h1
      rw [(hh u hW).1] at hV; cases hV
  · cases hW : W u <;> simp [hV, hW]
/-- one of the two has a set: the rest by the induction -/
theorem gext {me : Nat → Bool} {c1 c2 : Nat → Nat → Int} {V : Nat → Bool} {E : Nat → Nat → Bool} (hG : gOK tg V E) (ih : ∀ V' E', gOK tg V' E' → ecn E' < ecn E → gDet tg me c1 c2 V' E') :
    ∀ (m : Nat) (W0 : Nat → Bool), gWin tg me c1 V E W0 → (∃ u, W0 u = true) → ((List.range 8).filter (fun u => V u && !W0 u)).length ≤ m → gDet tg me c1 c2 V E := by
  intro m
  induction m with
  | zero =>
    intro W0 h0 hne hm
    refine ⟨W0, h0, fun _ => 0, fun _ => 0, fun u hu => ?_⟩
    have h8 : u < 8 := (hG.2 u (by simp only [Bool.and_eq_true] at hu; exact hu.1)).1
    have : u ∈ (List.range 8).filter (fun u => V u && !W0 u) := List.mem_filter.mpr ⟨List.mem_range.mpr h8, hu⟩
    have hz := List.length_eq_zero_iff.mp (Nat.le_zero.mp hm)
    rw [hz] at this
    cases this
  | succ m ihm =>
    intro W0 h0 hne hm
    obtain ⟨s0, p0, hw0⟩ := id h0
    have more : ∀ (u : Nat) (W' : Nat → Bool), V u = true → W0 u = false → W' u = true → (∀ x, W0 x = true → W' x = true) → ((List.range 8).filter (fun u => V u && !W' u)).length ≤ m := by
      intro u W' hV hu hu' hmono
      have : ((List.range 8).filter (fun u => V u && !W' u)).length < ((List.range 8).filter (fun u => V u && !W0 u)).length := by
        refine cnt_lt _ _ _ (fun x _ q => ?_) ⟨u, List.mem_range.mpr (hG.2 u hV).1, by simp [hV, hu], by simp [hu']⟩
        simp only [Bool.and_eq_true, Bool.not_eq_true'] at q ⊢
        refine ⟨q.1, ?_⟩
        cases hx : W0 x
        · rfl
        · rw [hmono x hx] at q; exact absurd q.2 (by decide)
      omega
    by_cases a1 : ∃ u e, me u = true ∧ V u = true ∧ W0 u = false ∧ E u e = true ∧ W0 (tg u e) = true
    · obtain ⟨u, e, hm1, hV, hu, he, ht⟩ := a1
      refine ihm (fun x => W0 x || x == u) ⟨fun x => if x = u then e else s0 x, fun x => if x = u then c1 u e + p0 (tg u e) else p0 x, fun x hx => ?_⟩ ⟨u, by simp⟩ (more u _ hV hu (by simp) (fun x hx => by simp [hx]))
      by_cases q : x = u
      · subst q
        refine ⟨hV, fun _ => ?_, fun h => by rw [hm1] at h; cases h⟩
        have hn : tg x e ≠ x := fun q => by rw [q, hu] at ht; cases ht
        simp only [if_true, ht, Bool.true_or, if_neg hn]
        exact ⟨he, trivial, Int.le_refl _⟩
      · have hx0 : W0 x = true := by simpa [q] using hx
        have hh := hw0 x hx0
        have hne : ∀ y, W0 y = true → y ≠ u := fun y hy r => by rw [r, hu] at hy; cases hy
        refine ⟨hh.1, fun hmx => ?_, fun hmx e' he' => ?_⟩
        · have := hh.2.1 hmx
          simp only [if_neg q, this.2.1, Bool.true_or, if_neg (hne _ this.2.1)]
          exact ⟨this.1, trivial, this.2.2⟩
        · have := hh.2.2 hmx e' he'
          simp only [if_neg q, this.1, Bool.true_or, if_neg (hne _ this.1)]
          exact ⟨trivial, this.2⟩
    · by_cases a2 : ∃ u, me u = false ∧ V u = true ∧ W0 u = false ∧ ∀ e, E u e = true → W0 (tg u e) = true
      · obtain ⟨u, hm1, hV, hu, he⟩ := a2
        obtain ⟨K, -, hK⟩ := bdI (fun _ e => -(c1 u e + p0 (tg u e))) 24 1
        refine ihm (fun x => W0 x || x == u) ⟨s0, fun x => if x = u then -K else p0 x, fun x hx => ?_⟩ ⟨u, by simp⟩ (more u _ hV hu (by simp) (fun x hx => by simp [hx]))
        by_cases q : x = u
        · subst q
          refine ⟨hV, (fun h => by rw [hm1] at h; cases h), fun _ e' he' => ?_⟩
          have hn : tg x e' ≠ x := fun q => by have := he e' he'; rw [q, hu] at this; cases this
          simp only [if_true, he e' he', Bool.true_or, if_neg hn]
          have := hK 0 e' (by omega) (hG.1 _ _ he').2.1
          exact ⟨trivial, by omega⟩
        · have hx0 : W0 x = true := by simpa [q] using hx
          have hh := hw0 x hx0
          have hne : ∀ y, W0 y = true → y ≠ u := fun y hy r => by rw [r, hu] at hy; cases hy
          refine ⟨hh.1, fun hmx => ?_, fun hmx e' he' => ?_⟩
          · have := hh.2.1 hmx
            simp only [if_neg q, this.2.1, Bool.true_or, if_neg (hne _ this.2.1)]
            exact ⟨this.1, trivial, this.2.2⟩
          · have := hh.2.2 hmx e' he'
            simp only [if_neg q, this.1, Bool.true_or, if_neg (hne _ this.1)]
            exact ⟨trivial, this.2⟩
      · -- the subgame
        have n1 : ∀ u e, me u = true → V u = true → W0 u = false → E u e = true → W0 (tg u e) = false := fun u e x1 x2 x3 x4 => by
          cases hq : W0 (tg u e)
          · rfl
          · exact absurd ⟨u, e, x1, x2, x3, x4, hq⟩ a1
        have n2 : ∀ u, me u = false → V u = true → W0 u = false → ∃ e, E u e = true ∧ W0 (tg u e) = false := fun u x1 x2 x3 => Classical.byContradiction (fun hno => a2 ⟨u, x1, x2, x3, fun e he => by
          cases hq : W0 (tg u e)
          · exact absurd ⟨e, he, hq⟩ hno
          · rfl⟩)
        obtain ⟨u0, hu0⟩ := hne
        obtain ⟨e0, he0⟩ := (hG.2 u0 (hw0 u0 hu0).1).2
        have hG' : gOK tg (fun u => V u && !W0 u) (fun u e => E u e && (!W0 u && !W0 (tg u e))) := by
          constructor
          · intro u e h
            simp only [Bool.and_eq_true, Bool.not_eq_true'] at h ⊢
            have := hG.1 u e h.1
            exact ⟨⟨this.1, h.2.1⟩, this.2.1, this.2.2, h.2.2⟩
          · intro u h
            simp only [Bool.and_eq_true, Bool.not_eq_true'] at h ⊢
            refine ⟨(hG.2 u h.1).1, ?_⟩
            cases hm1 : me u
            · obtain ⟨e, x1, x2⟩ := n2 u hm1 h.1 h.2
              exact ⟨e, x1, h.2, x2⟩
            · obtain ⟨e, he⟩ := (hG.2 u h.1).2
              exact ⟨e, he, h.2, n1 u e hm1 h.1 h.2 he⟩
        obtain ⟨W1, ⟨s1, p1, h1⟩, ⟨s2, p2, h2⟩⟩ := ih _ _ hG' (ecn_lt (u := u0) (e := e0) (fun u e h => by simp only [Bool.and_eq_true] at h; exact h.1) (hG.2 u0 (hw0 u0 hu0).1).1 (hG.1 _ _ he0).2.1 he0 (by simp [hu0]))
        obtain ⟨K, hK0, hK⟩ := bdI (fun u e => p1 u - c1 u e - p0 (tg u e)) 24 8
        have hsub : ∀ u, W1 u = true → V u = true ∧ W0 u = false := fun u hu => by
          have := (h1 u hu).1
          simp only [Bool.and_eq_true, Bool.not_eq_true'] at this
          exact this
        refine ⟨fun u => W0 u || W1 u, ⟨fun u => if W0 u then s0 u else s1 u, fun u => if W0 u then p0 u else p1 u - K, fun u hu => ?_⟩, ⟨s2, p2, fun u hu => ?_⟩⟩
        · cases hq : W0 u
          · have hu1 : W1 u = true := by simpa [hq] using hu
            have hh := h1 u hu1
            refine ⟨(hsub u hu1).1, fun hm1 => ?_, fun hm1 e he => ?_⟩
            · have := hh.2.1 hm1
              simp only [Bool.and_eq_true, Bool.not_eq_true'] at this
              simp only [hq, Bool.false_eq_true, if_false, this.1.2.2, this.2.1, Bool.or_true]
              exact ⟨this.1.1, trivial, by have := this.2.2; omega⟩
            · cases ht : W0 (tg u e)
              · have := hh.2.2 hm1 e (by simp [he, hq, ht])
                simp only [this.1, Bool.or_true, hq, ht, Bool.false_eq_true, if_false]
                exact ⟨trivial, by have := this.2; omega⟩
              · simp only [Bool.true_or, hq, ht, Bool.false_eq_true, if_false, if_true]
                have := hK u e (hG.2 u (hsub u hu1).1).1 (hG.1 _ _ he).2.1
                exact ⟨trivial, by omega⟩
          · have hh := hw0 u hq
            refine ⟨hh.1, fun hm1 => ?_, fun hm1 e he => ?_⟩
            · have := hh.2.1 hm1
              simp only [hq, this.2.1, Bool.true_or, if_true]
              exact ⟨this.1, trivial, this.2.2⟩
            · have := hh.2.2 hm1 e he
              simp only [hq, this.1, Bool.true_or, if_true]
              exact ⟨trivial, this.2⟩
        · have hu' : V u = true ∧ W0 u = false ∧ W1 u = false := by
            simpa only [Bool.and_eq_true, Bool.not_eq_true', Bool.or_eq_false_iff] using hu
          have hh := h2 u (by simp [hu'.1, hu'.2.1, hu'.2.2])
          refine ⟨hu'.1, fun hm1 => ?_, fun hm1 e he => ?_⟩
          · have := hh.2.1 hm1
            simp only [Bool.and_eq_true, Bool.not_eq_true'] at this
            refine ⟨this.1.1, ?_, this.2.2⟩
            simp only [Bool.and_eq_true, Bool.not_eq_true', Bool.or_eq_false_iff]
            exact ⟨this.2.1.1.1, this.2.1.1.2, this.2.1.2⟩
          · have ht := n1 u e (by simpa using hm1) hu'.1 hu'.2.1 he
            have := hh.2.2 hm1 e (by simp [he, hu'.2.1, ht])
            simp only [Bool.and_eq_true, Bool.not_eq_true'] at this
            refine ⟨?_, this.2⟩
            simp only [Bool.and_eq_true, Bool.not_eq_true', Bool.or_eq_false_iff]
            exact ⟨this.1.1.1, this.1.1.2, this.1.2⟩
/-- the owner of v has a choice there and wins nowhere: the other wins everywhere -/
theorem gspl {me : Nat → Bool} {c1 c2 : Nat → Nat → Int} {V : Nat → Bool} {E : Nat → Nat → Bool} (hG : gOK tg V E) (ih : ∀ V' E', gOK tg V' E' → ecn E' < ecn E → gDet tg me c1 c2 V' E')
    (hno : ¬ ∃ W0, gWin tg me c1 V E W0 ∧ ∃ u, W0 u = true) {v e1 e2 : Nat} (hv : me v = true) (h1 : E v e1 = true) (h2 : E v e2 = true) (hne : e1 ≠ e2) : gWin tg (fun u => !me u) c2 V E V := by
  have sub : ∀ E', gOK tg V E' → ecn E' < ecn E → (∀ u e, E' u e = true → E u e = true) → (∀ u e, u ≠ v → E' u e = E u e) → gWin tg (fun u => !me u) c2 V E' V := by
    intro E' hG' hl hs hs2
    obtain ⟨W, ⟨s, p, hw⟩, hb⟩ := ih V E' hG' hl
    have hW : ∀ u, W u = false := by
      intro u
      cases hu : W u
      · rfl
      · refine absurd ⟨W, ⟨s, p, fun x hx => ⟨(hw x hx).1, fun hm => ?_, fun hm e he => ?_⟩⟩, u, hu⟩ hno
        · have := (hw x hx).2.1 hm
          exact ⟨hs _ _ this.1, this.2.1, this.2.2⟩
        · have hxv : x ≠ v := fun q => by rw [q, hv] at hm; cases hm
          exact (hw x hx).2.2 hm e (by rw [hs2 x e hxv]; exact he)
    exact gWin_c tg hb (fun u => by rw [hW u]; simp)
  have hVv := (hG.1 v e1 h1).1
  refine gmerge tg hG (v := v) (EA := fun u e => E u e && !(u == v && e == e1)) (EB := fun u e => E u e && !(u == v && !(e == e1))) (by simp [hv]) (fun u e hu => by simp [hu]) (fun e he => ?_) ?_ ?_
  · by_cases q : e = e1
    · exact Or.inr (by subst q; simp [he])
    · exact Or.inl (by simp [he, q])
  · refine sub _ ⟨fun u e h => hG.1 u e (by simp only [Bool.and_eq_true] at h; exact h.1), fun u hu => ⟨(hG.2 u hu).1, ?_⟩⟩ (ecn_lt (u := v) (e := e1) (fun u e h => by simp only [Bool.and_eq_true] at h; exact h.1) (hG.2 v hVv).1 (hG.1 _ _ h1).2.1 h1 (by simp)) (fun u e h => by simp only [Bool.and_eq_true] at h; exact h.1) (fun u e hu => by simp [hu])
    by_cases q : u = v
    · subst q; exact ⟨e2, by simp [h2, Ne.symm hne]⟩
    · obtain ⟨e, he⟩ := (hG.2 u hu).2
      exact ⟨e, by simp [he, q]⟩
  · refine sub _ ⟨fun u e h => hG.1 u e (by simp only [Bool.and_eq_true] at h; exact h.1), fun u hu => ⟨(hG.2 u hu).1, ?_⟩⟩ (ecn_lt (u := v) (e := e2) (fun u e h => by simp only [Bool.and_eq_true] at h; exact h.1) (hG.2 v hVv).1 (hG.1 _ _ h2).2.1 h2 (by simp [Ne.symm hne])) (fun u e h => by simp only [Bool.and_eq_true] at h; exact h.1) (fun u e hu => by simp [hu])
    by_cases q : u = v
    · subst q; exact ⟨e1, by simp [h1]⟩
    · obtain ⟨e, he⟩ := (hG.2 u hu).2
      exact ⟨e, by simp [he, q]⟩
theorem gdet : ∀ (n : Nat) (me : Nat → Bool) (c1 c2 : Nat → Nat → Int) (V : Nat → Bool) (E : Nat → Nat → Bool), gHC tg c1 c2 → gOK tg V E → ecn E < n → gDet tg me c1 c2 V E
  | 0, _, _, _, _, _, _, _, h => absurd h (by omega)
  | n + 1, me, c1, c2, V, E, hC, hG, hn => by
    have hC' : gHC tg c2 c1 := fun f x k a b d => (hC f x k a b d).symm
    have ih1 : ∀ V' E', gOK tg V' E' → ecn E' < ecn E → gDet tg me c1 c2 V' E' := fun V' E' hG' hl => gdet n me c1 c2 V' E' hC hG' (by omega)
    have ih2 : ∀ V' E', gOK tg V' E' → ecn E' < ecn E → gDet tg (fun u => !me u) c2 c1 V' E' := fun V' E' hG' hl => gdet n _ c2 c1 V' E' hC' hG' (by omega)
    by_cases a1 : ∃ W0, gWin tg me c1 V E W0 ∧ ∃ u, W0 u = true
    · obtain ⟨W0, h0, hne⟩ := a1
      exact gext tg hG ih1 _ W0 h0 hne (Nat.le_refl _)
    · by_cases a2 : ∃ W0, gWin tg (fun u => !me u) c2 V E W0 ∧ ∃ u, W0 u = true
      · obtain ⟨W0, h0, hne⟩ := a2
        exact gDet_sw tg (gext tg hG ih2 _ W0 h0 hne (Nat.le_refl _))
      · by_cases a3 : ∃ u, V u = true
        · exfalso
          obtain ⟨u0, hu0⟩ := a3
          by_cases a4 : ∃ v e1 e2, E v e1 = true ∧ E v e2 = true ∧ e1 ≠ e2
          · obtain ⟨v, e1, e2, h1, h2, hne⟩ := a4
            cases hv : me v
            · exact a1 ⟨V, gWin_nn tg (gspl tg hG ih2 a2 (v := v) (by simp [hv]) h1 h2 hne), u0, hu0⟩
            · exact a2 ⟨V, gspl tg hG ih1 a1 (v := v) hv h1 h2 hne, u0, hu0⟩
          · have huq : ∀ v e1 e2, E v e1 = true → E v e2 = true → e1 = e2 := fun v e1 e2 h1 h2 => Classical.byContradiction (fun q => a4 ⟨v, e1, e2, h1, h2, q⟩)
            have hex : ∀ u, ∃ e, V u = true → E u e = true := fun u => by
              by_cases q : V u = true
              · obtain ⟨e, he⟩ := (hG.2 u q).2
                exact ⟨e, fun _ => he⟩
              · exact ⟨0, fun q' => absurd q' q⟩
            obtain ⟨f, hf⟩ := Classical.axiomOfChoice hex
            have hV : ∀ i, V (gorb tg f i u0) = true := by
              intro i
              induction i with
              | zero => exact hu0
              | succ i ih => rw [gorb_s]; exact (hG.1 _ _ (hf _ ih)).2.2
            obtain ⟨i, j, hij, hj, he⟩ := php 8 (fun i => gorb tg f i u0) (fun i _ => (hG.2 _ (hV i)).1)
            have hr : gorb tg f (j - i) (gorb tg f i u0) = gorb tg f i u0 := by
              rw [← gorb_add, show i + (j - i) = j by omega]; exact he.symm
            rcases hC f _ (j - i) (by omega) (by omega) hr with q | q
            · exact a1 (gring tg hG hf (fun u e h => huq u e _ h (hf u (hG.1 u e h).1)) (hV i) (by omega) hr q)
            · exact a2 (gring tg hG hf (fun u e h => huq u e _ h (hf u (hG.1 u e h).1)) (hV i) (by omega) hr q)
        · refine ⟨fun _ => false, ⟨fun _ => 0, fun _ => 0, fun u hu => by cases hu⟩, fun _ => 0, fun _ => 0, fun u hu => ?_⟩
          simp only [Bool.and_eq_true] at hu
          exact absurd ⟨u, hu.1⟩ a3
end GAMES
