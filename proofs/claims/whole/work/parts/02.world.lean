abbrev vwCl : List vw_C := [(RX0, TX0, 7), (RX1, TX1, 6), (RX2, TX2, 9), (RX3, TX3, 4), (RX4, TX4, 3), (RX5, TX5, 15), (RX6, TX6, 5), (RX7, TX7, 5), (RX8, TX8, 10), (RX9, TX9, 6), (RX10, TX10, 3), (RX11, TX11, 16), (RX12, TX12, 46)]
abbrev Sh : Type := Nat ⊕ (Nat × Nat)
abbrev NN : Nat := 127
def shT : List Sh := [.inl 11, .inr (2, 900), .inl 5, .inl 9, .inl 3, .inr (0, 900), .inr (0, 64), .inl 3, .inr (0, 900), .inr (0, 64), .inr (0, 16), .inr (0, 16), .inr (0, 16), .inr (0, 5), .inl 2, .inr (0, 16), .inr (0, 16), .inr (0, 8), .inr (0, 10), .inr (0, 160), .inl 6, .inr (0, 8), .inl 6, .inr (0, 8), .inl 4, .inr (5, 10), .inl 6, .inr (0, 8), .inl 6, .inr (0, 8), .inl 6, .inr (0, 8), .inl 6, .inr (0, 8), .inl 6, .inr (0, 8), .inl 6, .inr (0, 8), .inl 6, .inr (0, 8), .inl 6, .inr (0, 8), .inl 6, .inr (0, 8), .inl 6, .inr (0, 8), .inr (6, 4), .inl 10, .inr (1, 40), .inl 10, .inr (1, 40), .inl 10, .inr (1, 40), .inl 10, .inr (1, 40), .inr (4, 2), .inl 2, .inr (0, 16), .inr (0, 16), .inr (0, 8), .inr (0, 10), .inr (0, 160), .inl 2, .inr (0, 16), .inr (0, 16), .inr (0, 8), .inr (0, 10), .inr (0, 160), .inr (5, 2), .inl 6, .inr (0, 8), .inl 6, .inr (0, 8), .inl 8, .inr (0, 8), .inr (0, 8), .inr (0, 8), .inr (0, 8), .inr (0, 8), .inr (0, 8), .inl 0, .inr (0, 8), .inr (0, 8), .inr (0, 8), .inr (0, 8), .inr (0, 8), .inr (0, 8), .inl 1, .inr (0, 9), .inr (0, 9), .inr (0, 10), .inr (0, 8), .inl 7, .inr (0, 9512), .inr (0, 8), .inr (0, 8), .inr (0, 8), .inr (2, 0), .inl 12, .inr (0, 3276), .inr (3, 2), .inr (0, 900), .inr (0, 1092), .inr (0, 900), .inr (0, 5), .inr (0, 24), .inr (0, 24), .inr (0, 24), .inr (0, 8), .inr (0, 12), .inr (0, 1024), .inr (0, 1024), .inr (0, 1024), .inr (0, 1024), .inr (0, 2), .inr (0, 8), .inr (0, 16), .inr (0, 8), .inr (0, 8), .inr (0, 9), .inr (1, 9), .inr (0, 9512), .inr (0, 9512), .inr (0, 10), .inr (0, 4), .inr (0, 4), .inr (1, 160)]
def rfT : List (List Nat) := [[1, 0, 2, 14, 20, 22, 24, 46, 55, 68, 73, 80, 87, 92, 96, 0], [], [3, 4, 7, 0, 0, 0, 0, 0, 10, 11, 12, 13, 0, 0, 0], [0, 0, 0, 0, 0, 0], [5, 6, 0, 0], [], [], [8, 9, 0, 0], [], [], [], [], [], [], [0, 0, 0, 0, 15, 16, 17, 18, 19], [], [], [], [], [], [0, 0, 0, 0, 21], [], [0, 0, 0, 0, 23], [], [25, 0, 0], [26, 28, 30, 32, 34, 36, 38, 40, 42, 44], [0, 0, 0, 0, 27], [], [0, 0, 0, 0, 29], [], [0, 0, 0, 0, 31], [], [0, 0, 0, 0, 33], [], [0, 0, 0, 0, 35], [], [0, 0, 0, 0, 37], [], [0, 0, 0, 0, 39], [], [0, 0, 0, 0, 41], [], [0, 0, 0, 0, 43], [], [0, 0, 0, 0, 45], [], [47, 49, 51, 53], [0, 0, 48], [], [0, 0, 50], [], [0, 0, 52], [], [0, 0, 54], [], [56, 62], [0, 0, 0, 0, 57, 58, 59, 60, 61], [], [], [], [], [], [0, 0, 0, 0, 63, 64, 65, 66, 67], [], [], [], [], [], [69, 71], [0, 0, 0, 0, 70], [], [0, 0, 0, 0, 72], [], [0, 0, 0, 74, 75, 76, 77, 78, 79, 0], [], [], [], [], [], [], [0, 81, 82, 83, 84, 85, 86], [], [], [], [], [], [], [88, 89, 90, 91, 0, 0], [], [], [], [], [93, 94, 95, 0, 0], [], [], [], [], [], [0, 99, 100, 101, 102, 0, 0, 0, 0, 0, 0, 0, 0, 0, 0, 103, 104, 105, 106, 107, 108, 109, 0, 0, 110, 111, 112, 113, 0, 114, 115, 116, 117, 118, 119, 120, 0, 0, 121, 122, 123, 0, 0, 124, 125, 126], [], [], [], [], [], [], [], [], [], [], [], [], [], [], [], [], [], [], [], [], [], [], [], [], [], [], [], []]
def FT : Nat → List (Nat × Nat) := fun c => match c with
  | 0 => [(0, 0), (3, 0), (3, 0), (3, 0), (3, 0), (3, 0), (3, 0)]
  | 1 => [(3, 0), (3, 0), (3, 0), (3, 0), (0, 0), (0, 0)]
  | 2 => [(0, 0), (0, 0), (0, 0), (0, 0), (3, 0), (3, 0), (3, 0), (3, 0), (3, 0)]
  | 3 => [(3, 0), (3, 0), (0, 0), (0, 0)]
  | 4 => [(3, 5), (0, 0), (0, 0)]
  | 5 => [(2, 9), (2, 3), (2, 3), (4, 1), (0, 0), (0, 0), (0, 0), (0, 0), (3, 0), (3, 0), (3, 0), (3, 0), (0, 0), (0, 0), (0, 0)]
  | 6 => [(0, 0), (1, 0), (0, 0), (0, 0), (3, 0)]
  | 7 => [(3, 0), (3, 0), (3, 0), (0, 0), (0, 0)]
  | 8 => [(4, 2), (0, 0), (0, 0), (3, 0), (3, 0), (3, 0), (3, 0), (3, 0), (3, 0), (0, 0)]
  | 9 => [(4, 0), (0, 0), (0, 0), (0, 0), (0, 0), (0, 0)]
  | 10 => [(0, 0), (0, 0), (3, 1)]
  | 11 => [(3, 2), (0, 0), (2, 5), (2, 2), (2, 6), (2, 6), (2, 4), (3, 6), (3, 4), (3, 5), (2, 8), (2, 0), (2, 1), (2, 7), (3, 0), (0, 0)]
  | 12 => [(0, 0), (3, 0), (3, 3), (3, 0), (3, 0), (0, 0), (0, 0), (0, 0), (0, 0), (0, 0), (0, 0), (0, 0), (0, 0), (0, 0), (0, 0), (3, 0), (3, 0), (3, 0), (3, 0), (3, 0), (3, 0), (3, 0), (0, 0), (0, 0), (3, 0), (3, 0), (3, 0), (3, 0), (0, 0), (3, 0), (3, 0), (3, 0), (3, 0), (3, 0), (3, 0), (3, 1), (0, 0), (0, 0), (3, 0), (3, 0), (3, 0), (1, 0), (1, 0), (3, 0), (3, 0), (3, 1)]
  | _ => []
theorem shT_len : shT.length = NN := by decide +kernel
abbrev Hp : Type := (Nat → Nat → Int32) × (Nat → Nat → Int64) × (Nat → Option Nat)
def gI (h : Hp) (o k : Nat) : Int32 := h.1 o k
def gJ (h : Hp) (o k : Nat) : Int64 := h.2.1 o k
def gR (h : Hp) (n : Nat) : Option Nat := h.2.2 n
def sI (h : Hp) (o k : Nat) (x : Int32) : Hp := (fun a b => if a = o ∧ b = k then x else h.1 a b, h.2)
def sJ (h : Hp) (o k : Nat) (x : Int64) : Hp := (h.1, fun a b => if a = o ∧ b = k then x else h.2.1 a b, h.2.2)
def sR (h : Hp) (n : Nat) (x : Option Nat) : Hp := (h.1, h.2.1, fun a => if a = n then x else h.2.2 a)
/-- n places of the row o1 from sp on, copied into the row o2 from dp on -/
def cI (h : Hp) (o1 sp o2 dp n : Nat) : Hp := (fun a b => if a = o2 ∧ dp ≤ b ∧ b < dp + n then h.1 o1 (sp + (b - dp)) else h.1 a b, h.2)
def SH (o : Nat) : Sh := shT.getD o (.inr (99, 0))
def rf (o k : Nat) : Nat := (rfT.getD o []).getD k 0
def alen (o : Nat) : Nat := match SH o with
  | .inr q => q.2
  | .inl _ => 0
/-- the array o is of the kind t -/
def isA (o t : Nat) : Prop := SH o = .inr (t, alen o)
abbrev Gx : Type := va_G × (Nat → Nat) × (Nat → ClassId) × (Nat → Nat) × (Nat → Nat) × Nat
def gAd (G : Gx) (o : Nat) : Nat := G.2.1 o
def gCy (G : Gx) (t : Nat) : ClassId := G.2.2.1 t
def gSa (G : Gx) (i : Nat) : Nat := G.2.2.2.1 i
def gSv (G : Gx) (i : Nat) : Nat := G.2.2.2.2.1 i
def gA (G : Gx) : Nat → Prop := fun q => G.2.2.2.2.2 ≤ q
def fvl (G : Gx) (h : Hp) (o k : Nat) (t : Nat × Nat) : Value := match t with
  | (0, _) => .int (h.1 o k)
  | (1, _) => .long (h.2.1 o k)
  | (4, n) => va_rf ((h.2.2 n).map (gAd G))
  | _ => .ref (gAd G (rf o k))
def avl (G : Gx) (h : Hp) (o t : Nat) : (Nat → Int32) ⊕ (Nat → Int64) ⊕ (Nat → UInt32) ⊕ (Nat → UInt64) ⊕ (Nat → Option Nat) := match t with
  | 1 => .inr (.inl (fun j => h.2.1 o j))
  | 4 => .inr (.inr (.inr (.inr (fun j => some (gAd G (rf o j))))))
  | 5 => .inr (.inr (.inr (.inr (fun j => some (gAd G (rf o j))))))
  | 6 => .inr (.inr (.inr (.inr (fun j => some (gAd G (rf o j))))))
  | _ => .inl (fun j => h.1 o j)
def EFs (G : Gx) (h : Hp) (o : Nat) (q : Sh) : va_E := match q with
  | .inl c => .inr (c, (FT c).mapIdx (fun k t => fvl G h o k t))
  | .inr (t, n) => .inl (gCy G t, n, avl G h o t)
def wl (G : Gx) (h : Hp) : va_W := (List.range NN).map (fun o => (gAd G o, EFs G h o (SH o)))
def tyl (G : Gx) : List (ClassId × FieldType) := [(gCy G 0, .int), (gCy G 1, .long), (gCy G 2, .byte), (gCy G 3, .boolean), (gCy G 4, .object RX2), (gCy G 5, .object RX6), (gCy G 6, .object RX10)]
def GOK (G : Gx) : Prop := (∀ i j, i < NN → j < NN → gAd G i = gAd G j → i = j) ∧ ∀ i, i < NN → gA G (gAd G i)
theorem sh_lt {o : Nat} {q : Sh} (h : SH o = q) (hq : q ≠ .inr (99, 0)) : o < NN := by
  rcases Nat.lt_or_ge o NN with h1 | h1
  · exact h1
  · exfalso
    apply hq
    rw [← h]
    unfold SH
    rw [List.getD_eq_getElem?_getD, List.getElem?_eq_none (by rw [shT_len]; exact h1)]
    rfl
theorem wl_get {G : Gx} {h : Hp} {o : Nat} (ho : o < NN) : (wl G h)[o]? = some (gAd G o, EFs G h o (SH o)) := by
  unfold wl
  rw [List.getElem?_map, List.getElem?_range ho]
  rfl
theorem wl_o {G : Gx} {h : Hp} {o c : Nat} (ho : SH o = .inl c) : (wl G h)[o]? = some (gAd G o, .inr (c, (FT c).mapIdx (fun k t => fvl G h o k t))) := by
  rw [wl_get (sh_lt ho (by simp)), ho]
  rfl
theorem wl_a {G : Gx} {h : Hp} {o t : Nat} (ho : isA o t) (ht : t ≠ 99) : (wl G h)[o]? = some (gAd G o, .inl (gCy G t, alen o, avl G h o t)) := by
  have h1 : o < NN := sh_lt ho (fun e => ht (Prod.mk.inj (Sum.inr.inj e)).1)
  rw [wl_get h1]
  unfold isA at ho
  conv => lhs; rw [ho]
  rfl
theorem wl_D {G : Gx} (hG : GOK G) (h : Hp) : va_D (gA G) (wl G h) := by
  have key : ∀ (k : Nat) (q : Nat × va_E), (wl G h)[k]? = some q → k < NN ∧ q.1 = gAd G k := by
    intro k q hk
    have h1 : k < NN := by
      have := (List.getElem?_eq_some_iff.mp hk).1
      simpa [wl] using this
    rw [wl_get h1] at hk
    cases hk
    exact ⟨h1, rfl⟩
  refine ⟨fun i j p q hi hj hpq => ?_, fun k q hk => ?_⟩
  · obtain ⟨a1, a2⟩ := key i p hi
    obtain ⟨b1, b2⟩ := key j q hj
    exact hG.1 i j a1 b1 (by rw [← a2, ← b2]; exact hpq)
  · obtain ⟨a1, a2⟩ := key k q hk
    rw [a2]
    exact hG.2 k a1
theorem wl_set {G : Gx} {h h' : Hp} {o : Nat} {e : va_E} (ho : o < NN) (he : e = EFs G h' o (SH o)) (hne : ∀ a, a ≠ o → EFs G h' a (SH a) = EFs G h a (SH a)) : (wl G h).set o (gAd G o, e) = wl G h' := by
  subst he
  apply List.ext_getElem?
  intro k
  by_cases hk : k < NN
  · rw [wl_get hk]
    by_cases hko : k = o
    · subst hko
      rw [List.getElem?_set_self (by simp [wl]; exact hk)]
    · rw [List.getElem?_set_ne (Ne.symm hko), wl_get hk, hne k hko]
  · rw [List.getElem?_eq_none (by simp [wl]; omega), List.getElem?_eq_none (by simp [wl]; omega)]
theorem fvl_ne {G : Gx} {h h' : Hp} {o k : Nat} {t : Nat × Nat} (h1 : h'.1 o k = h.1 o k) (h2 : h'.2.1 o k = h.2.1 o k) (h3 : h'.2.2 = h.2.2) : fvl G h' o k t = fvl G h o k t := by
  unfold fvl
  split <;> simp [h1, h2, h3]
theorem EFs_ne {G : Gx} {h h' : Hp} {o : Nat} (q : Sh) (h1 : ∀ k, h'.1 o k = h.1 o k) (h2 : ∀ k, h'.2.1 o k = h.2.1 o k) (h3 : h'.2.2 = h.2.2) : EFs G h' o q = EFs G h o q := by
  have e1 : h'.1 o = h.1 o := funext h1
  have e2 : h'.2.1 o = h.2.1 o := funext h2
  unfold EFs
  split
  · congr 3
    funext k t
    exact fvl_ne (h1 k) (h2 k) h3
  · unfold avl
    split <;> simp [e1, e2]
theorem map_set {G : Gx} {h h' : Hp} {o k : Nat} {L : List (Nat × Nat)} {v : Value} {t : Nat × Nat} (hk : L[k]? = some t) (hv : v = fvl G h' o k t) (hne : ∀ j u, L[j]? = some u → j ≠ k → fvl G h' o j u = fvl G h o j u) :
    (L.mapIdx (fun k t => fvl G h o k t)).set k v = L.mapIdx (fun k t => fvl G h' o k t) := by
  subst hv
  apply List.ext_getElem?
  intro j
  by_cases hj : j = k
  · subst hj
    have hl : j < L.length := (List.getElem?_eq_some_iff.mp hk).1
    rw [List.getElem?_set_self (by simpa using hl), List.getElem?_mapIdx, hk]
    rfl
  · rw [List.getElem?_set_ne (Ne.symm hj), List.getElem?_mapIdx, List.getElem?_mapIdx]
    cases hu : L[j]? with
    | none => rfl
    | some u => simp [hne j u hu hj]
theorem wl_sI {G : Gx} {h : Hp} {o c k m : Nat} {x : Int32} (ho : SH o = .inl c) (hf : (FT c)[k]? = some (0, m)) : (wl G h).set o (gAd G o, .inr (c, ((FT c).mapIdx (fun k t => fvl G h o k t)).set k (.int x))) = wl G (sI h o k x) := by
  refine wl_set (sh_lt ho (by simp)) ?_ (fun a ha => EFs_ne _ (fun b => by simp [sI, ha]) (fun _ => rfl) rfl)
  rw [ho]
  show _ = Sum.inr (c, _)
  congr 2
  refine map_set hf (by simp [fvl, sI]) (fun j u _ hj => fvl_ne (by simp [sI, hj]) rfl rfl)
theorem wl_sJ {G : Gx} {h : Hp} {o c k m : Nat} {x : Int64} (ho : SH o = .inl c) (hf : (FT c)[k]? = some (1, m)) : (wl G h).set o (gAd G o, .inr (c, ((FT c).mapIdx (fun k t => fvl G h o k t)).set k (.long x))) = wl G (sJ h o k x) := by
  refine wl_set (sh_lt ho (by simp)) ?_ (fun a ha => EFs_ne _ (fun _ => rfl) (fun b => by simp [sJ, ha]) rfl)
  rw [ho]
  show _ = Sum.inr (c, _)
  congr 2
  refine map_set hf (by simp [fvl, sJ]) (fun j u _ hj => fvl_ne rfl (by simp [sJ, hj]) rfl)
theorem wl_aI {G : Gx} {h : Hp} {o t i : Nat} {x : Int32} (ho : isA o t) (ht : t = 0 ∨ t = 2 ∨ t = 3) : (wl G h).set o (gAd G o, .inl (gCy G t, alen o, .inl (upd (fun j => h.1 o j) i x))) = wl G (sI h o i x) := by
  refine wl_set (sh_lt ho (fun e => by have := (Prod.mk.inj (Sum.inr.inj e)).1; omega)) ?_ (fun a ha => EFs_ne _ (fun b => by simp [sI, ha]) (fun _ => rfl) rfl)
  rw [ho]
  rcases ht with rfl | rfl | rfl <;> (simp only [EFs, avl]; congr 4; funext j; simp [upd, sI])
theorem wl_aJ {G : Gx} {h : Hp} {o i : Nat} {x : Int64} (ho : isA o 1) : (wl G h).set o (gAd G o, .inl (gCy G 1, alen o, .inr (.inl (vp_updL (fun j => h.2.1 o j) i x)))) = wl G (sJ h o i x) := by
  refine wl_set (sh_lt ho (fun e => by have := (Prod.mk.inj (Sum.inr.inj e)).1; omega)) ?_ (fun a ha => EFs_ne _ (fun _ => rfl) (fun b => by simp [sJ, ha]) rfl)
  rw [ho]
  simp only [EFs, avl]
  congr 5
  funext j
  simp [vp_updL, sJ]
theorem wl_cI {G : Gx} {h : Hp} {o o1 sp dp n : Nat} (ho : isA o 0) : (wl G h).set o (gAd G o, .inl (gCy G 0, alen o, .inl (va_cpy (fun j => h.1 o1 j) (fun j => h.1 o j) sp dp n))) = wl G (cI h o1 sp o dp n) := by
  refine wl_set (sh_lt ho (fun e => by have := (Prod.mk.inj (Sum.inr.inj e)).1; omega)) ?_ (fun a ha => EFs_ne _ (fun b => by simp [cI, ha]) (fun _ => rfl) rfl)
  rw [ho]
  simp only [EFs, avl]
  congr 4
  funext j
  by_cases hj : dp ≤ j ∧ j < dp + n
  · rw [pk_cpy_in hj.1 hj.2]; simp [cI, hj]
  · rw [pk_cpy_out (by omega)]; simp [cI, hj]
theorem shOK : (List.range NN).all (fun o => match SH o with
  | .inl c => (List.range (FT c).length).all (fun k => match (FT c)[k]? with
    | some (2, c') => decide (SH (rf o k) = .inl c')
    | some (3, t) => decide (SH (rf o k) = .inr (t, alen (rf o k)))
    | _ => true)
  | .inr (t, n) => (List.range n).all (fun i => match t with
    | 4 => decide (SH (rf o i) = .inl 2)
    | 5 => decide (SH (rf o i) = .inl 6)
    | 6 => decide (SH (rf o i) = .inl 10)
    | _ => true)) = true := by decide +kernel
/-- the tables hold: each reference field points to what its type says -/
theorem rf_o {o c k c' : Nat} (ho : SH o = .inl c) (hk : (FT c)[k]? = some (2, c')) : SH (rf o k) = .inl c' := by
  have h1 := List.all_eq_true.mp shOK o (List.mem_range.mpr (sh_lt ho (by simp)))
  rw [ho] at h1
  have hl : k < (FT c).length := (List.getElem?_eq_some_iff.mp hk).1
  have h2 := List.all_eq_true.mp h1 k (List.mem_range.mpr hl)
  rw [hk] at h2
  simpa using h2
theorem rf_a {o c k t : Nat} (ho : SH o = .inl c) (hk : (FT c)[k]? = some (3, t)) : isA (rf o k) t := by
  have h1 := List.all_eq_true.mp shOK o (List.mem_range.mpr (sh_lt ho (by simp)))
  rw [ho] at h1
  have hl : k < (FT c).length := (List.getElem?_eq_some_iff.mp hk).1
  have h2 := List.all_eq_true.mp h1 k (List.mem_range.mpr hl)
  rw [hk] at h2
  unfold isA
  simpa using h2
theorem rf_e {o t i : Nat} (ho : isA o t) (hi : i < alen o) (ht : t = 4 ∨ t = 5 ∨ t = 6) : SH (rf o i) = .inl (if t = 4 then 2 else if t = 5 then 6 else 10) := by
  have h1 := List.all_eq_true.mp shOK o (List.mem_range.mpr (sh_lt ho (fun e => by have := (Prod.mk.inj (Sum.inr.inj e)).1; omega)))
  unfold isA at ho
  rw [ho] at h1
  have h2 := List.all_eq_true.mp h1 i (List.mem_range.mpr hi)
  rcases ht with rfl | rfl | rfl <;> simpa using h2
theorem sh0 : SH 0 = .inl 11 := by decide +kernel
theorem ia1 : isA 1 2 := by unfold isA; decide +kernel
theorem al1 : alen 1 = 900 := by decide +kernel
theorem sh2 : SH 2 = .inl 5 := by decide +kernel
theorem sh3 : SH 3 = .inl 9 := by decide +kernel
theorem sh4 : SH 4 = .inl 3 := by decide +kernel
theorem ia5 : isA 5 0 := by unfold isA; decide +kernel
theorem al5 : alen 5 = 900 := by decide +kernel
theorem ia6 : isA 6 0 := by unfold isA; decide +kernel
theorem al6 : alen 6 = 64 := by decide +kernel
theorem sh7 : SH 7 = .inl 3 := by decide +kernel
theorem ia8 : isA 8 0 := by unfold isA; decide +kernel
theorem al8 : alen 8 = 900 := by decide +kernel
theorem ia9 : isA 9 0 := by unfold isA; decide +kernel
theorem al9 : alen 9 = 64 := by decide +kernel
theorem ia10 : isA 10 0 := by unfold isA; decide +kernel
theorem al10 : alen 10 = 16 := by decide +kernel
theorem ia11 : isA 11 0 := by unfold isA; decide +kernel
theorem al11 : alen 11 = 16 := by decide +kernel
theorem ia12 : isA 12 0 := by unfold isA; decide +kernel
theorem al12 : alen 12 = 16 := by decide +kernel
theorem ia13 : isA 13 0 := by unfold isA; decide +kernel
theorem al13 : alen 13 = 5 := by decide +kernel
theorem sh14 : SH 14 = .inl 2 := by decide +kernel
theorem ia15 : isA 15 0 := by unfold isA; decide +kernel
theorem al15 : alen 15 = 16 := by decide +kernel
theorem ia16 : isA 16 0 := by unfold isA; decide +kernel
theorem al16 : alen 16 = 16 := by decide +kernel
theorem ia17 : isA 17 0 := by unfold isA; decide +kernel
theorem al17 : alen 17 = 8 := by decide +kernel
theorem ia18 : isA 18 0 := by unfold isA; decide +kernel
theorem al18 : alen 18 = 10 := by decide +kernel
theorem ia19 : isA 19 0 := by unfold isA; decide +kernel
theorem al19 : alen 19 = 160 := by decide +kernel
theorem sh20 : SH 20 = .inl 6 := by decide +kernel
theorem ia21 : isA 21 0 := by unfold isA; decide +kernel
theorem al21 : alen 21 = 8 := by decide +kernel
theorem sh22 : SH 22 = .inl 6 := by decide +kernel
theorem ia23 : isA 23 0 := by unfold isA; decide +kernel
theorem al23 : alen 23 = 8 := by decide +kernel
theorem sh24 : SH 24 = .inl 4 := by decide +kernel
theorem ia25 : isA 25 5 := by unfold isA; decide +kernel
theorem al25 : alen 25 = 10 := by decide +kernel
theorem sh26 : SH 26 = .inl 6 := by decide +kernel
theorem ia27 : isA 27 0 := by unfold isA; decide +kernel
theorem al27 : alen 27 = 8 := by decide +kernel
theorem sh28 : SH 28 = .inl 6 := by decide +kernel
theorem ia29 : isA 29 0 := by unfold isA; decide +kernel
theorem al29 : alen 29 = 8 := by decide +kernel
theorem sh30 : SH 30 = .inl 6 := by decide +kernel
theorem ia31 : isA 31 0 := by unfold isA; decide +kernel
theorem al31 : alen 31 = 8 := by decide +kernel
theorem sh32 : SH 32 = .inl 6 := by decide +kernel
theorem ia33 : isA 33 0 := by unfold isA; decide +kernel
theorem al33 : alen 33 = 8 := by decide +kernel
theorem sh34 : SH 34 = .inl 6 := by decide +kernel
theorem ia35 : isA 35 0 := by unfold isA; decide +kernel
theorem al35 : alen 35 = 8 := by decide +kernel
theorem sh36 : SH 36 = .inl 6 := by decide +kernel
theorem ia37 : isA 37 0 := by unfold isA; decide +kernel
theorem al37 : alen 37 = 8 := by decide +kernel
theorem sh38 : SH 38 = .inl 6 := by decide +kernel
theorem ia39 : isA 39 0 := by unfold isA; decide +kernel
theorem al39 : alen 39 = 8 := by decide +kernel
theorem sh40 : SH 40 = .inl 6 := by decide +kernel
theorem ia41 : isA 41 0 := by unfold isA; decide +kernel
theorem al41 : alen 41 = 8 := by decide +kernel
theorem sh42 : SH 42 = .inl 6 := by decide +kernel
theorem ia43 : isA 43 0 := by unfold isA; decide +kernel
theorem al43 : alen 43 = 8 := by decide +kernel
theorem sh44 : SH 44 = .inl 6 := by decide +kernel
theorem ia45 : isA 45 0 := by unfold isA; decide +kernel
theorem al45 : alen 45 = 8 := by decide +kernel
theorem ia46 : isA 46 6 := by unfold isA; decide +kernel
theorem al46 : alen 46 = 4 := by decide +kernel
theorem sh47 : SH 47 = .inl 10 := by decide +kernel
theorem ia48 : isA 48 1 := by unfold isA; decide +kernel
theorem al48 : alen 48 = 40 := by decide +kernel
theorem sh49 : SH 49 = .inl 10 := by decide +kernel
theorem ia50 : isA 50 1 := by unfold isA; decide +kernel
theorem al50 : alen 50 = 40 := by decide +kernel
theorem sh51 : SH 51 = .inl 10 := by decide +kernel
theorem ia52 : isA 52 1 := by unfold isA; decide +kernel
theorem al52 : alen 52 = 40 := by decide +kernel
theorem sh53 : SH 53 = .inl 10 := by decide +kernel
theorem ia54 : isA 54 1 := by unfold isA; decide +kernel
theorem al54 : alen 54 = 40 := by decide +kernel
theorem ia55 : isA 55 4 := by unfold isA; decide +kernel
theorem al55 : alen 55 = 2 := by decide +kernel
theorem sh56 : SH 56 = .inl 2 := by decide +kernel
theorem ia57 : isA 57 0 := by unfold isA; decide +kernel
theorem al57 : alen 57 = 16 := by decide +kernel
theorem ia58 : isA 58 0 := by unfold isA; decide +kernel
theorem al58 : alen 58 = 16 := by decide +kernel
theorem ia59 : isA 59 0 := by unfold isA; decide +kernel
theorem al59 : alen 59 = 8 := by decide +kernel
theorem ia60 : isA 60 0 := by unfold isA; decide +kernel
theorem al60 : alen 60 = 10 := by decide +kernel
theorem ia61 : isA 61 0 := by unfold isA; decide +kernel
theorem al61 : alen 61 = 160 := by decide +kernel
theorem sh62 : SH 62 = .inl 2 := by decide +kernel
theorem ia63 : isA 63 0 := by unfold isA; decide +kernel
theorem al63 : alen 63 = 16 := by decide +kernel
theorem ia64 : isA 64 0 := by unfold isA; decide +kernel
theorem al64 : alen 64 = 16 := by decide +kernel
theorem ia65 : isA 65 0 := by unfold isA; decide +kernel
theorem al65 : alen 65 = 8 := by decide +kernel
theorem ia66 : isA 66 0 := by unfold isA; decide +kernel
theorem al66 : alen 66 = 10 := by decide +kernel
theorem ia67 : isA 67 0 := by unfold isA; decide +kernel
theorem al67 : alen 67 = 160 := by decide +kernel
theorem ia68 : isA 68 5 := by unfold isA; decide +kernel
theorem al68 : alen 68 = 2 := by decide +kernel
theorem sh69 : SH 69 = .inl 6 := by decide +kernel
theorem ia70 : isA 70 0 := by unfold isA; decide +kernel
theorem al70 : alen 70 = 8 := by decide +kernel
theorem sh71 : SH 71 = .inl 6 := by decide +kernel
theorem ia72 : isA 72 0 := by unfold isA; decide +kernel
theorem al72 : alen 72 = 8 := by decide +kernel
theorem sh73 : SH 73 = .inl 8 := by decide +kernel
theorem ia74 : isA 74 0 := by unfold isA; decide +kernel
theorem al74 : alen 74 = 8 := by decide +kernel
theorem ia75 : isA 75 0 := by unfold isA; decide +kernel
theorem al75 : alen 75 = 8 := by decide +kernel
theorem ia76 : isA 76 0 := by unfold isA; decide +kernel
theorem al76 : alen 76 = 8 := by decide +kernel
theorem ia77 : isA 77 0 := by unfold isA; decide +kernel
theorem al77 : alen 77 = 8 := by decide +kernel
theorem ia78 : isA 78 0 := by unfold isA; decide +kernel
theorem al78 : alen 78 = 8 := by decide +kernel
theorem ia79 : isA 79 0 := by unfold isA; decide +kernel
theorem al79 : alen 79 = 8 := by decide +kernel
theorem sh80 : SH 80 = .inl 0 := by decide +kernel
theorem ia81 : isA 81 0 := by unfold isA; decide +kernel
theorem al81 : alen 81 = 8 := by decide +kernel
theorem ia82 : isA 82 0 := by unfold isA; decide +kernel
theorem al82 : alen 82 = 8 := by decide +kernel
theorem ia83 : isA 83 0 := by unfold isA; decide +kernel
theorem al83 : alen 83 = 8 := by decide +kernel
theorem ia84 : isA 84 0 := by unfold isA; decide +kernel
theorem al84 : alen 84 = 8 := by decide +kernel
theorem ia85 : isA 85 0 := by unfold isA; decide +kernel
theorem al85 : alen 85 = 8 := by decide +kernel
theorem ia86 : isA 86 0 := by unfold isA; decide +kernel
theorem al86 : alen 86 = 8 := by decide +kernel
theorem sh87 : SH 87 = .inl 1 := by decide +kernel
theorem ia88 : isA 88 0 := by unfold isA; decide +kernel
theorem al88 : alen 88 = 9 := by decide +kernel
theorem ia89 : isA 89 0 := by unfold isA; decide +kernel
theorem al89 : alen 89 = 9 := by decide +kernel
theorem ia90 : isA 90 0 := by unfold isA; decide +kernel
theorem al90 : alen 90 = 10 := by decide +kernel
theorem ia91 : isA 91 0 := by unfold isA; decide +kernel
theorem al91 : alen 91 = 8 := by decide +kernel
theorem sh92 : SH 92 = .inl 7 := by decide +kernel
theorem ia93 : isA 93 0 := by unfold isA; decide +kernel
theorem al93 : alen 93 = 9512 := by decide +kernel
theorem ia94 : isA 94 0 := by unfold isA; decide +kernel
theorem al94 : alen 94 = 8 := by decide +kernel
theorem ia95 : isA 95 0 := by unfold isA; decide +kernel
theorem al95 : alen 95 = 8 := by decide +kernel
theorem ia96 : isA 96 0 := by unfold isA; decide +kernel
theorem al96 : alen 96 = 8 := by decide +kernel
theorem ia97 : isA 97 2 := by unfold isA; decide +kernel
theorem al97 : alen 97 = 0 := by decide +kernel
theorem sh98 : SH 98 = .inl 12 := by decide +kernel
theorem ia99 : isA 99 0 := by unfold isA; decide +kernel
theorem al99 : alen 99 = 3276 := by decide +kernel
theorem ia100 : isA 100 3 := by unfold isA; decide +kernel
theorem al100 : alen 100 = 2 := by decide +kernel
theorem ia101 : isA 101 0 := by unfold isA; decide +kernel
theorem al101 : alen 101 = 900 := by decide +kernel
theorem ia102 : isA 102 0 := by unfold isA; decide +kernel
theorem al102 : alen 102 = 1092 := by decide +kernel
theorem ia103 : isA 103 0 := by unfold isA; decide +kernel
theorem al103 : alen 103 = 900 := by decide +kernel
theorem ia104 : isA 104 0 := by unfold isA; decide +kernel
theorem al104 : alen 104 = 5 := by decide +kernel
theorem ia105 : isA 105 0 := by unfold isA; decide +kernel
theorem al105 : alen 105 = 24 := by decide +kernel
theorem ia106 : isA 106 0 := by unfold isA; decide +kernel
theorem al106 : alen 106 = 24 := by decide +kernel
theorem ia107 : isA 107 0 := by unfold isA; decide +kernel
theorem al107 : alen 107 = 24 := by decide +kernel
theorem ia108 : isA 108 0 := by unfold isA; decide +kernel
theorem al108 : alen 108 = 8 := by decide +kernel
theorem ia109 : isA 109 0 := by unfold isA; decide +kernel
theorem al109 : alen 109 = 12 := by decide +kernel
theorem ia110 : isA 110 0 := by unfold isA; decide +kernel
theorem al110 : alen 110 = 1024 := by decide +kernel
theorem ia111 : isA 111 0 := by unfold isA; decide +kernel
theorem al111 : alen 111 = 1024 := by decide +kernel
theorem ia112 : isA 112 0 := by unfold isA; decide +kernel
theorem al112 : alen 112 = 1024 := by decide +kernel
theorem ia113 : isA 113 0 := by unfold isA; decide +kernel
theorem al113 : alen 113 = 1024 := by decide +kernel
theorem ia114 : isA 114 0 := by unfold isA; decide +kernel
theorem al114 : alen 114 = 2 := by decide +kernel
theorem ia115 : isA 115 0 := by unfold isA; decide +kernel
theorem al115 : alen 115 = 8 := by decide +kernel
theorem ia116 : isA 116 0 := by unfold isA; decide +kernel
theorem al116 : alen 116 = 16 := by decide +kernel
theorem ia117 : isA 117 0 := by unfold isA; decide +kernel
theorem al117 : alen 117 = 8 := by decide +kernel
theorem ia118 : isA 118 0 := by unfold isA; decide +kernel
theorem al118 : alen 118 = 8 := by decide +kernel
theorem ia119 : isA 119 0 := by unfold isA; decide +kernel
theorem al119 : alen 119 = 9 := by decide +kernel
theorem ia120 : isA 120 1 := by unfold isA; decide +kernel
theorem al120 : alen 120 = 9 := by decide +kernel
theorem ia121 : isA 121 0 := by unfold isA; decide +kernel
theorem al121 : alen 121 = 9512 := by decide +kernel
theorem ia122 : isA 122 0 := by unfold isA; decide +kernel
theorem al122 : alen 122 = 9512 := by decide +kernel
theorem ia123 : isA 123 0 := by unfold isA; decide +kernel
theorem al123 : alen 123 = 10 := by decide +kernel
theorem ia124 : isA 124 0 := by unfold isA; decide +kernel
theorem al124 : alen 124 = 4 := by decide +kernel
theorem ia125 : isA 125 0 := by unfold isA; decide +kernel
theorem al125 : alen 125 = 4 := by decide +kernel
theorem ia126 : isA 126 1 := by unfold isA; decide +kernel
theorem al126 : alen 126 = 160 := by decide +kernel
theorem ln_2_4 {o : Nat} (h : SH o = .inl 2) : alen (rf o 4) = 16 := by
  have h1 : (List.range NN).all (fun o => match SH o with | .inl 2 => decide (alen (rf o 4) = 16) | _ => true) = true := by decide +kernel
  have h2 := List.all_eq_true.mp h1 o (List.mem_range.mpr (sh_lt h (by simp)))
  rw [h] at h2
  simpa using h2
theorem ln_2_5 {o : Nat} (h : SH o = .inl 2) : alen (rf o 5) = 16 := by
  have h1 : (List.range NN).all (fun o => match SH o with | .inl 2 => decide (alen (rf o 5) = 16) | _ => true) = true := by decide +kernel
  have h2 := List.all_eq_true.mp h1 o (List.mem_range.mpr (sh_lt h (by simp)))
  rw [h] at h2
  simpa using h2
theorem ln_2_6 {o : Nat} (h : SH o = .inl 2) : alen (rf o 6) = 8 := by
  have h1 : (List.range NN).all (fun o => match SH o with | .inl 2 => decide (alen (rf o 6) = 8) | _ => true) = true := by decide +kernel
  have h2 := List.all_eq_true.mp h1 o (List.mem_range.mpr (sh_lt h (by simp)))
  rw [h] at h2
  simpa using h2
theorem ln_2_7 {o : Nat} (h : SH o = .inl 2) : alen (rf o 7) = 10 := by
  have h1 : (List.range NN).all (fun o => match SH o with | .inl 2 => decide (alen (rf o 7) = 10) | _ => true) = true := by decide +kernel
  have h2 := List.all_eq_true.mp h1 o (List.mem_range.mpr (sh_lt h (by simp)))
  rw [h] at h2
  simpa using h2
theorem ln_2_8 {o : Nat} (h : SH o = .inl 2) : alen (rf o 8) = 160 := by
  have h1 : (List.range NN).all (fun o => match SH o with | .inl 2 => decide (alen (rf o 8) = 160) | _ => true) = true := by decide +kernel
  have h2 := List.all_eq_true.mp h1 o (List.mem_range.mpr (sh_lt h (by simp)))
  rw [h] at h2
  simpa using h2
theorem ln_3_0 {o : Nat} (h : SH o = .inl 3) : alen (rf o 0) = 900 := by
  have h1 : (List.range NN).all (fun o => match SH o with | .inl 3 => decide (alen (rf o 0) = 900) | _ => true) = true := by decide +kernel
  have h2 := List.all_eq_true.mp h1 o (List.mem_range.mpr (sh_lt h (by simp)))
  rw [h] at h2
  simpa using h2
theorem ln_3_1 {o : Nat} (h : SH o = .inl 3) : alen (rf o 1) = 64 := by
  have h1 : (List.range NN).all (fun o => match SH o with | .inl 3 => decide (alen (rf o 1) = 64) | _ => true) = true := by decide +kernel
  have h2 := List.all_eq_true.mp h1 o (List.mem_range.mpr (sh_lt h (by simp)))
  rw [h] at h2
  simpa using h2
theorem ln_6_4 {o : Nat} (h : SH o = .inl 6) : alen (rf o 4) = 8 := by
  have h1 : (List.range NN).all (fun o => match SH o with | .inl 6 => decide (alen (rf o 4) = 8) | _ => true) = true := by decide +kernel
  have h2 := List.all_eq_true.mp h1 o (List.mem_range.mpr (sh_lt h (by simp)))
  rw [h] at h2
  simpa using h2
theorem ln_10_2 {o : Nat} (h : SH o = .inl 10) : alen (rf o 2) = 40 := by
  have h1 : (List.range NN).all (fun o => match SH o with | .inl 10 => decide (alen (rf o 2) = 40) | _ => true) = true := by decide +kernel
  have h2 := List.all_eq_true.mp h1 o (List.mem_range.mpr (sh_lt h (by simp)))
  rw [h] at h2
  simpa using h2
