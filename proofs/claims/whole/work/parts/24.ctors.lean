theorem c_fillA (G : Gx) (N : Nat) (f : Nat → Int32) (x : Int32) (hN : N < 2 ^ 31 := by decide) : CtF yJ7_fill_53178 cJ7_fill_53178 4 1 G [.int x] N f (fun _ => x) := by
  refine ctf_go (nm := "fill") (own := RJ7) (by decide) rfl rfl (fun _ => Nat.le_of_ble_eq_true rfl) (fun a sz => ?_)
  show GoA _ _ _ _ _ _ _ _ _ _ 0 [(0, .ref a), (1, .int x)] [] _ 0 0
  refine a_iconst (v := 0) dJ7_fill_53178_0 (by decide) ?_
  refine a_istore_n dJ7_fill_53178_1 rfl (by decide) (lv1 := [(0, .ref a), (1, .int x), (2, .int 0)]) rfl ?_
  refine a_aload_n dJ7_fill_53178_2 rfl rfl ?_
  refine a_alen (R := []) (t := 0) 0 dJ7_fill_53178_3 rfl rfl rfl ?_
  refine a_istore_n dJ7_fill_53178_4 rfl (by decide) (lv1 := [(0, .ref a), (1, .int x), (2, .int 0), (3, .int (Int32.ofNat N))]) rfl ?_
  have key : ∀ (m i : Nat) (g : Nat → Int32), i + m = N → (∀ j, j < i → g j = x) → GoA cJ7_fill_53178 4 RJ7 "fill" 1 0 0 G (va_A [(a, .inl (gCy G 0, N, .inl f))] sz) (va_Qv (fun _ : Unit => True) (fun _ t => va_P G.1 vwCl [(a, .inl (gCy G 0, N, .inl (fun _ => x)))] t.heap ∧ va_D (va_A [(a, .inl (gCy G 0, N, .inl f))] sz) [(a, .inl (gCy G 0, N, .inl (fun _ => x)))]) (va_A [(a, .inl (gCy G 0, N, .inl f))] sz)) 5 [(0, .ref a), (1, .int x), (2, .int (nI i)), (3, .int (nI N))] [] [(a, .inl (gCy G 0, N, .inl g))] 0 0 := by
    intro m
    induction m with
    | zero =>
      intro i g hi hg
      refine a_iload_n dJ7_fill_53178_5 rfl rfl ?_
      refine a_iload_n dJ7_fill_53178_6 rfl rfl ?_
      refine a_icmp_ge 20 dJ7_fill_53178_7 rfl (fun _ => ?_) (fun hc => absurd (nI_le (by omega) (by omega)) hc)
      exact a_retF dJ7_fill_53178_20 (fun j hj => hg j (by omega))
    | succ m ih =>
      intro i g hi hg
      refine a_iload_n dJ7_fill_53178_5 rfl rfl ?_
      refine a_iload_n dJ7_fill_53178_6 rfl rfl ?_
      refine a_icmp_ge 20 dJ7_fill_53178_7 rfl (fun hc => absurd hc (nI_ge (by omega) (by omega))) (fun _ => ?_)
      refine a_aload_n dJ7_fill_53178_10 rfl rfl ?_
      refine a_iload_n dJ7_fill_53178_11 rfl rfl ?_
      refine a_iload_n dJ7_fill_53178_12 rfl rfl ?_
      refine a_iast dJ7_fill_53178_13 (vp_in_nI (by omega) (by omega)) (i0 := i) (nI_clamp (by omega)) ?_
      refine a_iinc dJ7_fill_53178_14 rfl (v := nI (i + 1)) (by rw [nI_succ]; rfl) (by decide) (lv1 := [(0, .ref a), (1, .int x), (2, .int (nI (i + 1))), (3, .int (nI N))]) rfl ?_
      refine a_goto 5 dJ7_fill_53178_17 rfl ?_
      refine ih (i + 1) _ (by omega) (fun j hj => ?_)
      by_cases hji : j = i
      · subst hji; simp [upd]
      · simp only [upd, hji, if_false]; exact hg j (by omega)
  exact key N 0 f (by omega) (fun j hj => absurd hj (by omega))
def plainF : Nat → Int32 := fun j => if 62 ≤ j ∧ j < 70 then -1 else 0
theorem c_plainA (G : Gx) : CtF yX12_plain cX12_plain 2 1 G [] 3276 (fun _ => 0) plainF := by
  refine ctf_go (nm := "plain") (own := RX12) (by decide) rfl rfl (fun _ => Nat.le_of_ble_eq_true rfl) (fun a sz => ?_)
  show GoA _ _ _ _ _ _ _ _ _ _ 0 [(0, .ref a)] [] _ 0 0
  have key2 : ∀ (m i : Nat) (g : Nat → Int32), i + m = 8 → (∀ j, j < 3276 → g j = if 62 ≤ j ∧ j < 62 + i then -1 else 0) → GoA cX12_plain 2 RX12 "plain" 1 0 0 G (va_A [(a, .inl (gCy G 0, 3276, .inl (fun _ => 0)))] sz) (va_Qv (fun _ : Unit => True) (fun _ t => va_P G.1 vwCl [(a, .inl (gCy G 0, 3276, .inl plainF))] t.heap ∧ va_D (va_A [(a, .inl (gCy G 0, 3276, .inl (fun _ => 0)))] sz) [(a, .inl (gCy G 0, 3276, .inl plainF))]) (va_A [(a, .inl (gCy G 0, 3276, .inl (fun _ => 0)))] sz)) 21 [(0, .ref a), (1, .int (nI i))] [] [(a, .inl (gCy G 0, 3276, .inl g))] 0 0 := by
    intro m
    induction m with
    | zero =>
      intro i g hi hg
      refine a_iload_n dX12_plain_21 rfl rfl ?_
      refine a_bipush (v := nI 8) dX12_plain_22 (by decide) ?_
      refine a_icmp_ge 40 dX12_plain_24 rfl (fun _ => ?_) (fun hc => absurd (nI_le (by omega) (by omega)) hc)
      refine a_retF dX12_plain_40 (fun j hj => ?_)
      rw [hg j hj]
      have : i = 8 := by omega
      subst this
      rfl
    | succ m ih =>
      intro i g hi hg
      refine a_iload_n dX12_plain_21 rfl rfl ?_
      refine a_bipush (v := nI 8) dX12_plain_22 (by decide) ?_
      refine a_icmp_ge 40 dX12_plain_24 rfl (fun hc => absurd hc (nI_ge (by omega) (by omega))) (fun _ => ?_)
      refine a_aload_n dX12_plain_27 rfl rfl ?_
      refine a_bipush (v := nI 62) dX12_plain_28 (by decide) ?_
      refine a_iload_n dX12_plain_30 rfl rfl ?_
      refine a_iadd dX12_plain_31 ?_
      rw [nI_add]
      refine a_iconst (v := -1) dX12_plain_32 (by decide) ?_
      refine a_iast dX12_plain_33 (vp_in_nI (by omega) (by omega)) (i0 := 62 + i) (nI_clamp (by omega)) ?_
      refine a_iinc dX12_plain_34 rfl (v := nI (i + 1)) (by rw [nI_succ]; rfl) (by decide) (lv1 := [(0, .ref a), (1, .int (nI (i + 1)))]) rfl ?_
      refine a_goto 21 dX12_plain_37 rfl ?_
      refine ih (i + 1) _ (by omega) (fun j hj => ?_)
      by_cases hji : j = 62 + i
      · subst hji
        rw [if_pos (by omega)]
        simp [upd]
      · simp only [upd, hji, if_false]
        rw [hg j hj]
        by_cases hc : 62 ≤ j ∧ j < 62 + i
        · rw [if_pos hc, if_pos (by omega)]
        · rw [if_neg hc, if_neg (by omega)]
  have key : ∀ (m i : Nat) (g : Nat → Int32), i + m = 1092 → (∀ j, g j = 0) → GoA cX12_plain 2 RX12 "plain" 1 0 0 G (va_A [(a, .inl (gCy G 0, 3276, .inl (fun _ => 0)))] sz) (va_Qv (fun _ : Unit => True) (fun _ t => va_P G.1 vwCl [(a, .inl (gCy G 0, 3276, .inl plainF))] t.heap ∧ va_D (va_A [(a, .inl (gCy G 0, 3276, .inl (fun _ => 0)))] sz) [(a, .inl (gCy G 0, 3276, .inl plainF))]) (va_A [(a, .inl (gCy G 0, 3276, .inl (fun _ => 0)))] sz)) 2 [(0, .ref a), (1, .int (nI i))] [] [(a, .inl (gCy G 0, 3276, .inl g))] 0 0 := by
    intro m
    induction m with
    | zero =>
      intro i g hi hg
      refine a_iload_n dX12_plain_2 rfl rfl ?_
      refine a_sipush (v := nI 1092) dX12_plain_3 (by decide) ?_
      refine a_icmp_ge 19 dX12_plain_6 rfl (fun _ => ?_) (fun hc => absurd (nI_le (by omega) (by omega)) hc)
      refine a_iconst (v := 0) dX12_plain_19 (by decide) ?_
      refine a_istore_n dX12_plain_20 rfl (by decide) (lv1 := [(0, .ref a), (1, .int 0)]) rfl ?_
      exact key2 8 0 g (by omega) (fun j hj => by rw [hg j, if_neg (by omega)])
    | succ m ih =>
      intro i g hi hg
      refine a_iload_n dX12_plain_2 rfl rfl ?_
      refine a_sipush (v := nI 1092) dX12_plain_3 (by decide) ?_
      refine a_icmp_ge 19 dX12_plain_6 rfl (fun hc => absurd hc (nI_ge (by omega) (by omega))) (fun _ => ?_)
      refine a_aload_n dX12_plain_9 rfl rfl ?_
      refine a_iload_n dX12_plain_10 rfl rfl ?_
      refine a_iconst (v := 0) dX12_plain_11 (by decide) ?_
      refine a_iast dX12_plain_12 (vp_in_nI (by omega) (by omega)) (i0 := i) (nI_clamp (by omega)) ?_
      refine a_iinc dX12_plain_13 rfl (v := nI (i + 1)) (by rw [nI_succ]; rfl) (by decide) (lv1 := [(0, .ref a), (1, .int (nI (i + 1)))]) rfl ?_
      refine a_goto 2 dX12_plain_16 rfl ?_
      exact ih (i + 1) _ (by omega) (fun j => by by_cases hji : j = i <;> simp [upd, hji, hg])
  refine a_iconst (v := 0) dX12_plain_0 (by decide) ?_
  refine a_istore_n dX12_plain_1 rfl (by decide) (lv1 := [(0, .ref a), (1, .int 0)]) rfl ?_
  exact key 1092 0 _ (by omega) (fun _ => rfl)
theorem dX6_init_0 : decode cX6_init 0 = .ok (.aload_n 0, 1) := by decide +kernel
theorem dX6_init_1 : decode cX6_init 1 = .ok (.invokespecial 3, 3) := by decide +kernel
theorem dX6_init_4 : decode cX6_init 4 = .ok (.aload_n 0, 1) := by decide +kernel
theorem dX6_init_5 : decode cX6_init 5 = .ok (.iconst 0, 1) := by decide +kernel
theorem dX6_init_6 : decode cX6_init 6 = .ok (.putfield 9, 3) := by decide +kernel
theorem dX6_init_9 : decode cX6_init 9 = .ok (.aload_n 0, 1) := by decide +kernel
theorem dX6_init_10 : decode cX6_init 10 = .ok (.lconst 0, 1) := by decide +kernel
theorem dX6_init_11 : decode cX6_init 11 = .ok (.putfield 15, 3) := by decide +kernel
theorem dX6_init_14 : decode cX6_init 14 = .ok (.aload_n 0, 1) := by decide +kernel
theorem dX6_init_15 : decode cX6_init 15 = .ok (.iconst 0, 1) := by decide +kernel
theorem dX6_init_16 : decode cX6_init 16 = .ok (.putfield 19, 3) := by decide +kernel
theorem dX6_init_19 : decode cX6_init 19 = .ok (.aload_n 0, 1) := by decide +kernel
theorem dX6_init_20 : decode cX6_init 20 = .ok (.iconst 0, 1) := by decide +kernel
theorem dX6_init_21 : decode cX6_init 21 = .ok (.putfield 22, 3) := by decide +kernel
theorem dX6_init_24 : decode cX6_init 24 = .ok (.aload_n 0, 1) := by decide +kernel
theorem dX6_init_25 : decode cX6_init 25 = .ok (.bipush 8, 2) := by decide +kernel
theorem dX6_init_27 : decode cX6_init 27 = .ok (.newarray .int, 2) := by decide +kernel
theorem dX6_init_29 : decode cX6_init 29 = .ok (.putfield 25, 3) := by decide +kernel
theorem dX6_init_32 : decode cX6_init 32 = .ok (.aload_n 0, 1) := by decide +kernel
theorem dX6_init_33 : decode cX6_init 33 = .ok (.getfield 25, 3) := by decide +kernel
theorem dX6_init_36 : decode cX6_init 36 = .ok (.iconst (-1), 1) := by decide +kernel
theorem dX6_init_37 : decode cX6_init 37 = .ok (.invokestatic 29, 3) := by decide +kernel
theorem dX6_init_40 : decode cX6_init 40 = .ok (.return_, 1) := by decide +kernel
theorem ml_X6_3 : Cond.methodLink RX6 3 objectInit ∈ Wd := mW 193 (by decide +kernel) rfl
theorem ac_int : Cond.arrayClass .int ∈ Wd := mW 85 (by decide +kernel) rfl
theorem pf_6_4 : parseFieldDescriptor (uD 6 4) = some (.array .int) := by decide +kernel
abbrev S6 : Type := Nat
def Wc6 (G : Gx) (a : Nat) (u : S6) : va_W := (a, .inr (6, [.int 0, .long 0, .int 0, .int 0, .ref (u)])) :: ([] ++ [((u), .inl (gCy G 0, 8, .inl (fun _ => (-1))))])
set_option maxHeartbeats 4000000 in
set_option maxRecDepth 20000 in
theorem c_ini_6 (G : Gx) : CtA yX6_init cX6_init 1 2 1 8 G 6 [.int 0, .long 0, .int 0, .int 0, .null] (Wc6 G) := by
  refine cta_go (own := RX6) (by decide) rfl rfl (by decide) (fun a sz => ?_)
  refine a_aload_n dX6_init_0 rfl rfl ?_
  refine a_obj dX6_init_1 ml_X6_3 (by decide) (by decide) ?_
  refine a_aload_n dX6_init_4 rfl rfl ?_
  refine a_iconst (v := 0) dX6_init_5 (by decide) ?_
  refine a_put dX6_init_6 fl_X6_9 rfl pf_6_0 rfl rfl (Nat.le_of_ble_eq_true rfl) (fs1 := [.int 0, .long 0, .int 0, .int 0, .null]) rfl ?_
  refine a_aload_n dX6_init_9 rfl rfl ?_
  refine a_lconst (v := 0) dX6_init_10 (by decide) ?_
  refine a_put dX6_init_11 fl_X6_15 rfl pf_6_1 rfl rfl (Nat.le_of_ble_eq_true rfl) (fs1 := [.int 0, .long 0, .int 0, .int 0, .null]) rfl ?_
  refine a_aload_n dX6_init_14 rfl rfl ?_
  refine a_iconst (v := 0) dX6_init_15 (by decide) ?_
  refine a_put dX6_init_16 fl_X6_19 rfl pf_6_2 rfl rfl (Nat.le_of_ble_eq_true rfl) (fs1 := [.int 0, .long 0, .int 0, .int 0, .null]) rfl ?_
  refine a_aload_n dX6_init_19 rfl rfl ?_
  refine a_iconst (v := 0) dX6_init_20 (by decide) ?_
  refine a_put dX6_init_21 fl_X6_22 rfl pf_6_3 rfl rfl (Nat.le_of_ble_eq_true rfl) (fs1 := [.int 0, .long 0, .int 0, .int 0, .null]) rfl ?_
  refine a_aload_n dX6_init_24 rfl rfl ?_
  refine a_bipush (v := 8) dX6_init_25 (by decide) ?_
  refine a_newa (t := 0) (N := 8) (f0 := .inl (fun _ => 0)) dX6_init_27 ac_int rfl (fun _ _ => rfl) rfl (fun _ => rfl) (by decide) (by decide) (by decide) (Nat.le_of_ble_eq_true rfl) (Nat.le_of_ble_eq_true rfl) (fun q1 => ?_)
  refine a_eq (ws1 := (a, .inr (6, [.int 0, .long 0, .int 0, .int 0, .null])) :: ([] ++ [(q1, .inl (gCy G 0, 8, .inl (fun _ => 0)))])) rfl ?_
  refine a_putF dX6_init_29 fl_X6_25 rfl rfl pf_6_4 rfl rfl (Nat.le_of_ble_eq_true rfl) (fs1 := [.int 0, .long 0, .int 0, .int 0, .ref q1]) rfl ?_
  refine a_aload_n dX6_init_32 rfl rfl ?_
  refine a_get dX6_init_33 fl_X6_25 (v := .ref q1) rfl ?_
  refine a_iconst (v := (-1)) dX6_init_36 (by decide) ?_
  refine a_callF (ws := (a, .inr (6, [.int 0, .long 0, .int 0, .int 0, .ref q1])) :: []) (ex := [.int (-1)]) dX6_init_37 ml_X6_29 mk_J7_fill_53178 rfl (c_fillA G 8 (fun _ => 0) (-1)) (Nat.le_of_ble_eq_true rfl) (Nat.le_of_ble_eq_true rfl) rfl (Nat.le_of_ble_eq_true rfl) (Nat.le_of_ble_eq_true rfl) ?_
  refine a_eq (ws1 := (a, .inr (6, [.int 0, .long 0, .int 0, .int 0, .ref q1])) :: ([] ++ [(q1, .inl (gCy G 0, 8, .inl (fun _ => (-1))))])) rfl ?_
  exact a_ret (q1) dX6_init_40 (List.Perm.refl _) (Nat.le_of_ble_eq_true rfl) (Nat.le_of_ble_eq_true rfl)
theorem dX3_init_0 : decode cX3_init 0 = .ok (.aload_n 0, 1) := by decide +kernel
theorem dX3_init_1 : decode cX3_init 1 = .ok (.invokespecial 3, 3) := by decide +kernel
theorem dX3_init_4 : decode cX3_init 4 = .ok (.aload_n 0, 1) := by decide +kernel
theorem dX3_init_5 : decode cX3_init 5 = .ok (.sipush 900, 3) := by decide +kernel
theorem dX3_init_8 : decode cX3_init 8 = .ok (.newarray .int, 2) := by decide +kernel
theorem dX3_init_10 : decode cX3_init 10 = .ok (.putfield 9, 3) := by decide +kernel
theorem dX3_init_13 : decode cX3_init 13 = .ok (.aload_n 0, 1) := by decide +kernel
theorem dX3_init_14 : decode cX3_init 14 = .ok (.bipush 64, 2) := by decide +kernel
theorem dX3_init_16 : decode cX3_init 16 = .ok (.newarray .int, 2) := by decide +kernel
theorem dX3_init_18 : decode cX3_init 18 = .ok (.putfield 15, 3) := by decide +kernel
theorem dX3_init_21 : decode cX3_init 21 = .ok (.aload_n 0, 1) := by decide +kernel
theorem dX3_init_22 : decode cX3_init 22 = .ok (.iconst 0, 1) := by decide +kernel
theorem dX3_init_23 : decode cX3_init 23 = .ok (.putfield 18, 3) := by decide +kernel
theorem dX3_init_26 : decode cX3_init 26 = .ok (.aload_n 0, 1) := by decide +kernel
theorem dX3_init_27 : decode cX3_init 27 = .ok (.iconst 0, 1) := by decide +kernel
theorem dX3_init_28 : decode cX3_init 28 = .ok (.putfield 22, 3) := by decide +kernel
theorem dX3_init_31 : decode cX3_init 31 = .ok (.return_, 1) := by decide +kernel
theorem ml_X3_3 : Cond.methodLink RX3 3 objectInit ∈ Wd := mW 70 (by decide +kernel) rfl
theorem pf_3_0 : parseFieldDescriptor (uD 3 0) = some (.array .int) := by decide +kernel
theorem pf_3_1 : parseFieldDescriptor (uD 3 1) = some (.array .int) := by decide +kernel
abbrev S3 : Type := Nat × Nat
def Wc3 (G : Gx) (a : Nat) (u : S3) : va_W := (a, .inr (3, [.ref (u.1), .ref (u.2), .int 0, .int 0])) :: (([] ++ [((u.1), .inl (gCy G 0, 900, .inl (fun _ => 0)))]) ++ [((u.2), .inl (gCy G 0, 64, .inl (fun _ => 0)))])
set_option maxHeartbeats 4000000 in
set_option maxRecDepth 20000 in
theorem c_ini_3 (G : Gx) : CtA yX3_init cX3_init 1 1 2 964 G 3 [.null, .null, .int 0, .int 0] (Wc3 G) := by
  refine cta_go (own := RX3) (by decide) rfl rfl (by decide) (fun a sz => ?_)
  refine a_aload_n dX3_init_0 rfl rfl ?_
  refine a_obj dX3_init_1 ml_X3_3 (by decide) (by decide) ?_
  refine a_aload_n dX3_init_4 rfl rfl ?_
  refine a_sipush (v := 900) dX3_init_5 (by decide) ?_
  refine a_newa (t := 0) (N := 900) (f0 := .inl (fun _ => 0)) dX3_init_8 ac_int rfl (fun _ _ => rfl) rfl (fun _ => rfl) (by decide) (by decide) (by decide) (Nat.le_of_ble_eq_true rfl) (Nat.le_of_ble_eq_true rfl) (fun q1 => ?_)
  refine a_eq (ws1 := (a, .inr (3, [.null, .null, .int 0, .int 0])) :: ([] ++ [(q1, .inl (gCy G 0, 900, .inl (fun _ => 0)))])) rfl ?_
  refine a_putF dX3_init_10 fl_X3_9 rfl rfl pf_3_0 rfl rfl (Nat.le_of_ble_eq_true rfl) (fs1 := [.ref q1, .null, .int 0, .int 0]) rfl ?_
  refine a_aload_n dX3_init_13 rfl rfl ?_
  refine a_bipush (v := 64) dX3_init_14 (by decide) ?_
  refine a_newa (t := 0) (N := 64) (f0 := .inl (fun _ => 0)) dX3_init_16 ac_int rfl (fun _ _ => rfl) rfl (fun _ => rfl) (by decide) (by decide) (by decide) (Nat.le_of_ble_eq_true rfl) (Nat.le_of_ble_eq_true rfl) (fun q2 => ?_)
  refine a_eq (ws1 := (a, .inr (3, [.ref q1, .null, .int 0, .int 0])) :: (([] ++ [(q1, .inl (gCy G 0, 900, .inl (fun _ => 0)))]) ++ [(q2, .inl (gCy G 0, 64, .inl (fun _ => 0)))])) rfl ?_
  refine a_putF dX3_init_18 fl_X3_15 rfl rfl pf_3_1 rfl rfl (Nat.le_of_ble_eq_true rfl) (fs1 := [.ref q1, .ref q2, .int 0, .int 0]) rfl ?_
  refine a_aload_n dX3_init_21 rfl rfl ?_
  refine a_iconst (v := 0) dX3_init_22 (by decide) ?_
  refine a_put dX3_init_23 fl_X3_18 rfl pf_3_2 rfl rfl (Nat.le_of_ble_eq_true rfl) (fs1 := [.ref q1, .ref q2, .int 0, .int 0]) rfl ?_
  refine a_aload_n dX3_init_26 rfl rfl ?_
  refine a_iconst (v := 0) dX3_init_27 (by decide) ?_
  refine a_put dX3_init_28 fl_X3_22 rfl pf_3_3 rfl rfl (Nat.le_of_ble_eq_true rfl) (fs1 := [.ref q1, .ref q2, .int 0, .int 0]) rfl ?_
  exact a_ret (q1, q2) dX3_init_31 (List.Perm.refl _) (Nat.le_of_ble_eq_true rfl) (Nat.le_of_ble_eq_true rfl)
theorem dX9_init_0 : decode cX9_init 0 = .ok (.aload_n 0, 1) := by decide +kernel
theorem dX9_init_1 : decode cX9_init 1 = .ok (.invokespecial 1, 3) := by decide +kernel
theorem dX9_init_4 : decode cX9_init 4 = .ok (.aload_n 0, 1) := by decide +kernel
theorem dX9_init_5 : decode cX9_init 5 = .ok (.iconst 0, 1) := by decide +kernel
theorem dX9_init_6 : decode cX9_init 6 = .ok (.newarray .byte, 2) := by decide +kernel
theorem dX9_init_8 : decode cX9_init 8 = .ok (.putfield 7, 3) := by decide +kernel
theorem dX9_init_11 : decode cX9_init 11 = .ok (.aload_n 0, 1) := by decide +kernel
theorem dX9_init_12 : decode cX9_init 12 = .ok (.iconst 0, 1) := by decide +kernel
theorem dX9_init_13 : decode cX9_init 13 = .ok (.putfield 13, 3) := by decide +kernel
theorem dX9_init_16 : decode cX9_init 16 = .ok (.aload_n 0, 1) := by decide +kernel
theorem dX9_init_17 : decode cX9_init 17 = .ok (.iconst 0, 1) := by decide +kernel
theorem dX9_init_18 : decode cX9_init 18 = .ok (.putfield 17, 3) := by decide +kernel
theorem dX9_init_21 : decode cX9_init 21 = .ok (.aload_n 0, 1) := by decide +kernel
theorem dX9_init_22 : decode cX9_init 22 = .ok (.iconst 0, 1) := by decide +kernel
theorem dX9_init_23 : decode cX9_init 23 = .ok (.putfield 20, 3) := by decide +kernel
theorem dX9_init_26 : decode cX9_init 26 = .ok (.aload_n 0, 1) := by decide +kernel
theorem dX9_init_27 : decode cX9_init 27 = .ok (.iconst 0, 1) := by decide +kernel
theorem dX9_init_28 : decode cX9_init 28 = .ok (.putfield 23, 3) := by decide +kernel
theorem dX9_init_31 : decode cX9_init 31 = .ok (.aload_n 0, 1) := by decide +kernel
theorem dX9_init_32 : decode cX9_init 32 = .ok (.iconst 0, 1) := by decide +kernel
theorem dX9_init_33 : decode cX9_init 33 = .ok (.putfield 26, 3) := by decide +kernel
theorem dX9_init_36 : decode cX9_init 36 = .ok (.return_, 1) := by decide +kernel
theorem ml_X9_1 : Cond.methodLink RX9 1 objectInit ∈ Wd := mW 42 (by decide +kernel) rfl
theorem ac_byte : Cond.arrayClass .byte ∈ Wd := mW 64 (by decide +kernel) rfl
abbrev S9 : Type := Nat
def Wc9 (G : Gx) (a : Nat) (u : S9) : va_W := (a, .inr (9, [.ref (u), .int 0, .int 0, .int 0, .int 0, .int 0])) :: ([] ++ [((u), .inl (gCy G 2, 0, .inl (fun _ => 0)))])
set_option maxHeartbeats 4000000 in
set_option maxRecDepth 20000 in
theorem c_ini_9 (G : Gx) : CtA yX9_init cX9_init 1 1 1 0 G 9 [.null, .int 0, .int 0, .int 0, .int 0, .int 0] (Wc9 G) := by
  refine cta_go (own := RX9) (by decide) rfl rfl (by decide) (fun a sz => ?_)
  refine a_aload_n dX9_init_0 rfl rfl ?_
  refine a_obj dX9_init_1 ml_X9_1 (by decide) (by decide) ?_
  refine a_aload_n dX9_init_4 rfl rfl ?_
  refine a_iconst (v := 0) dX9_init_5 (by decide) ?_
  refine a_newa (t := 2) (N := 0) (f0 := .inl (fun _ => 0)) dX9_init_6 ac_byte rfl (fun _ _ => rfl) rfl (fun _ => rfl) (by decide) (by decide) (by decide) (Nat.le_of_ble_eq_true rfl) (Nat.le_of_ble_eq_true rfl) (fun q1 => ?_)
  refine a_eq (ws1 := (a, .inr (9, [.null, .int 0, .int 0, .int 0, .int 0, .int 0])) :: ([] ++ [(q1, .inl (gCy G 2, 0, .inl (fun _ => 0)))])) rfl ?_
  refine a_put dX9_init_8 fl_X9_7 rfl pf_9_0 rfl rfl (Nat.le_of_ble_eq_true rfl) (fs1 := [.ref q1, .int 0, .int 0, .int 0, .int 0, .int 0]) rfl ?_
  refine a_aload_n dX9_init_11 rfl rfl ?_
  refine a_iconst (v := 0) dX9_init_12 (by decide) ?_
  refine a_put dX9_init_13 fl_X9_13 rfl pf_9_1 rfl rfl (Nat.le_of_ble_eq_true rfl) (fs1 := [.ref q1, .int 0, .int 0, .int 0, .int 0, .int 0]) rfl ?_
  refine a_aload_n dX9_init_16 rfl rfl ?_
  refine a_iconst (v := 0) dX9_init_17 (by decide) ?_
  refine a_put dX9_init_18 fl_X9_17 rfl pf_9_2 rfl rfl (Nat.le_of_ble_eq_true rfl) (fs1 := [.ref q1, .int 0, .int 0, .int 0, .int 0, .int 0]) rfl ?_
  refine a_aload_n dX9_init_21 rfl rfl ?_
  refine a_iconst (v := 0) dX9_init_22 (by decide) ?_
  refine a_put dX9_init_23 fl_X9_20 rfl pf_9_3 rfl rfl (Nat.le_of_ble_eq_true rfl) (fs1 := [.ref q1, .int 0, .int 0, .int 0, .int 0, .int 0]) rfl ?_
  refine a_aload_n dX9_init_26 rfl rfl ?_
  refine a_iconst (v := 0) dX9_init_27 (by decide) ?_
  refine a_put dX9_init_28 fl_X9_23 rfl pf_9_4 rfl rfl (Nat.le_of_ble_eq_true rfl) (fs1 := [.ref q1, .int 0, .int 0, .int 0, .int 0, .int 0]) rfl ?_
  refine a_aload_n dX9_init_31 rfl rfl ?_
  refine a_iconst (v := 0) dX9_init_32 (by decide) ?_
  refine a_put dX9_init_33 fl_X9_26 rfl pf_9_5 rfl rfl (Nat.le_of_ble_eq_true rfl) (fs1 := [.ref q1, .int 0, .int 0, .int 0, .int 0, .int 0]) rfl ?_
  exact a_ret (q1) dX9_init_36 (List.Perm.refl _) (Nat.le_of_ble_eq_true rfl) (Nat.le_of_ble_eq_true rfl)
theorem dX2_init_0 : decode cX2_init 0 = .ok (.aload_n 0, 1) := by decide +kernel
theorem dX2_init_1 : decode cX2_init 1 = .ok (.invokespecial 3, 3) := by decide +kernel
theorem dX2_init_4 : decode cX2_init 4 = .ok (.aload_n 0, 1) := by decide +kernel
theorem dX2_init_5 : decode cX2_init 5 = .ok (.iconst 1, 1) := by decide +kernel
theorem dX2_init_6 : decode cX2_init 6 = .ok (.putfield 9, 3) := by decide +kernel
theorem dX2_init_9 : decode cX2_init 9 = .ok (.aload_n 0, 1) := by decide +kernel
theorem dX2_init_10 : decode cX2_init 10 = .ok (.iconst 1, 1) := by decide +kernel
theorem dX2_init_11 : decode cX2_init 11 = .ok (.putfield 15, 3) := by decide +kernel
theorem dX2_init_14 : decode cX2_init 14 = .ok (.aload_n 0, 1) := by decide +kernel
theorem dX2_init_15 : decode cX2_init 15 = .ok (.iconst 0, 1) := by decide +kernel
theorem dX2_init_16 : decode cX2_init 16 = .ok (.putfield 18, 3) := by decide +kernel
theorem dX2_init_19 : decode cX2_init 19 = .ok (.aload_n 0, 1) := by decide +kernel
theorem dX2_init_20 : decode cX2_init 20 = .ok (.iconst 0, 1) := by decide +kernel
theorem dX2_init_21 : decode cX2_init 21 = .ok (.putfield 21, 3) := by decide +kernel
theorem dX2_init_24 : decode cX2_init 24 = .ok (.aload_n 0, 1) := by decide +kernel
theorem dX2_init_25 : decode cX2_init 25 = .ok (.bipush 16, 2) := by decide +kernel
theorem dX2_init_27 : decode cX2_init 27 = .ok (.newarray .int, 2) := by decide +kernel
theorem dX2_init_29 : decode cX2_init 29 = .ok (.putfield 24, 3) := by decide +kernel
theorem dX2_init_32 : decode cX2_init 32 = .ok (.aload_n 0, 1) := by decide +kernel
theorem dX2_init_33 : decode cX2_init 33 = .ok (.bipush 16, 2) := by decide +kernel
theorem dX2_init_35 : decode cX2_init 35 = .ok (.newarray .int, 2) := by decide +kernel
theorem dX2_init_37 : decode cX2_init 37 = .ok (.putfield 28, 3) := by decide +kernel
theorem dX2_init_40 : decode cX2_init 40 = .ok (.aload_n 0, 1) := by decide +kernel
theorem dX2_init_41 : decode cX2_init 41 = .ok (.bipush 8, 2) := by decide +kernel
theorem dX2_init_43 : decode cX2_init 43 = .ok (.newarray .int, 2) := by decide +kernel
theorem dX2_init_45 : decode cX2_init 45 = .ok (.putfield 31, 3) := by decide +kernel
theorem dX2_init_48 : decode cX2_init 48 = .ok (.aload_n 0, 1) := by decide +kernel
theorem dX2_init_49 : decode cX2_init 49 = .ok (.bipush 10, 2) := by decide +kernel
theorem dX2_init_51 : decode cX2_init 51 = .ok (.newarray .int, 2) := by decide +kernel
theorem dX2_init_53 : decode cX2_init 53 = .ok (.putfield 34, 3) := by decide +kernel
theorem dX2_init_56 : decode cX2_init 56 = .ok (.aload_n 0, 1) := by decide +kernel
theorem dX2_init_57 : decode cX2_init 57 = .ok (.sipush 160, 3) := by decide +kernel
theorem dX2_init_60 : decode cX2_init 60 = .ok (.newarray .int, 2) := by decide +kernel
theorem dX2_init_62 : decode cX2_init 62 = .ok (.putfield 37, 3) := by decide +kernel
theorem dX2_init_65 : decode cX2_init 65 = .ok (.return_, 1) := by decide +kernel
theorem ml_X2_3 : Cond.methodLink RX2 3 objectInit ∈ Wd := mW 140 (by decide +kernel) rfl
theorem pf_2_4 : parseFieldDescriptor (uD 2 4) = some (.array .int) := by decide +kernel
theorem pf_2_5 : parseFieldDescriptor (uD 2 5) = some (.array .int) := by decide +kernel
theorem pf_2_6 : parseFieldDescriptor (uD 2 6) = some (.array .int) := by decide +kernel
theorem pf_2_7 : parseFieldDescriptor (uD 2 7) = some (.array .int) := by decide +kernel
theorem pf_2_8 : parseFieldDescriptor (uD 2 8) = some (.array .int) := by decide +kernel
abbrev S2 : Type := Nat × Nat × Nat × Nat × Nat
def Wc2 (G : Gx) (a : Nat) (u : S2) : va_W := (a, .inr (2, [.int 1, .int 1, .int 0, .int 0, .ref (u.1), .ref (u.2.1), .ref (u.2.2.1), .ref (u.2.2.2.1), .ref (u.2.2.2.2)])) :: ((((([] ++ [((u.1), .inl (gCy G 0, 16, .inl (fun _ => 0)))]) ++ [((u.2.1), .inl (gCy G 0, 16, .inl (fun _ => 0)))]) ++ [((u.2.2.1), .inl (gCy G 0, 8, .inl (fun _ => 0)))]) ++ [((u.2.2.2.1), .inl (gCy G 0, 10, .inl (fun _ => 0)))]) ++ [((u.2.2.2.2), .inl (gCy G 0, 160, .inl (fun _ => 0)))])
set_option maxHeartbeats 4000000 in
set_option maxRecDepth 20000 in
theorem c_ini_2 (G : Gx) : CtA yX2_init cX2_init 1 1 5 210 G 2 [.int 0, .int 0, .int 0, .int 0, .null, .null, .null, .null, .null] (Wc2 G) := by
  refine cta_go (own := RX2) (by decide) rfl rfl (by decide) (fun a sz => ?_)
  refine a_aload_n dX2_init_0 rfl rfl ?_
  refine a_obj dX2_init_1 ml_X2_3 (by decide) (by decide) ?_
  refine a_aload_n dX2_init_4 rfl rfl ?_
  refine a_iconst (v := 1) dX2_init_5 (by decide) ?_
  refine a_put dX2_init_6 fl_X2_9 rfl pf_2_0 rfl rfl (Nat.le_of_ble_eq_true rfl) (fs1 := [.int 1, .int 0, .int 0, .int 0, .null, .null, .null, .null, .null]) rfl ?_
  refine a_aload_n dX2_init_9 rfl rfl ?_
  refine a_iconst (v := 1) dX2_init_10 (by decide) ?_
  refine a_put dX2_init_11 fl_X2_15 rfl pf_2_1 rfl rfl (Nat.le_of_ble_eq_true rfl) (fs1 := [.int 1, .int 1, .int 0, .int 0, .null, .null, .null, .null, .null]) rfl ?_
  refine a_aload_n dX2_init_14 rfl rfl ?_
  refine a_iconst (v := 0) dX2_init_15 (by decide) ?_
  refine a_put dX2_init_16 fl_X2_18 rfl pf_2_2 rfl rfl (Nat.le_of_ble_eq_true rfl) (fs1 := [.int 1, .int 1, .int 0, .int 0, .null, .null, .null, .null, .null]) rfl ?_
  refine a_aload_n dX2_init_19 rfl rfl ?_
  refine a_iconst (v := 0) dX2_init_20 (by decide) ?_
  refine a_put dX2_init_21 fl_X2_21 rfl pf_2_3 rfl rfl (Nat.le_of_ble_eq_true rfl) (fs1 := [.int 1, .int 1, .int 0, .int 0, .null, .null, .null, .null, .null]) rfl ?_
  refine a_aload_n dX2_init_24 rfl rfl ?_
  refine a_bipush (v := 16) dX2_init_25 (by decide) ?_
  refine a_newa (t := 0) (N := 16) (f0 := .inl (fun _ => 0)) dX2_init_27 ac_int rfl (fun _ _ => rfl) rfl (fun _ => rfl) (by decide) (by decide) (by decide) (Nat.le_of_ble_eq_true rfl) (Nat.le_of_ble_eq_true rfl) (fun q1 => ?_)
  refine a_eq (ws1 := (a, .inr (2, [.int 1, .int 1, .int 0, .int 0, .null, .null, .null, .null, .null])) :: ([] ++ [(q1, .inl (gCy G 0, 16, .inl (fun _ => 0)))])) rfl ?_
  refine a_putF dX2_init_29 fl_X2_24 rfl rfl pf_2_4 rfl rfl (Nat.le_of_ble_eq_true rfl) (fs1 := [.int 1, .int 1, .int 0, .int 0, .ref q1, .null, .null, .null, .null]) rfl ?_
  refine a_aload_n dX2_init_32 rfl rfl ?_
  refine a_bipush (v := 16) dX2_init_33 (by decide) ?_
  refine a_newa (t := 0) (N := 16) (f0 := .inl (fun _ => 0)) dX2_init_35 ac_int rfl (fun _ _ => rfl) rfl (fun _ => rfl) (by decide) (by decide) (by decide) (Nat.le_of_ble_eq_true rfl) (Nat.le_of_ble_eq_true rfl) (fun q2 => ?_)
  refine a_eq (ws1 := (a, .inr (2, [.int 1, .int 1, .int 0, .int 0, .ref q1, .null, .null, .null, .null])) :: (([] ++ [(q1, .inl (gCy G 0, 16, .inl (fun _ => 0)))]) ++ [(q2, .inl (gCy G 0, 16, .inl (fun _ => 0)))])) rfl ?_
  refine a_putF dX2_init_37 fl_X2_28 rfl rfl pf_2_5 rfl rfl (Nat.le_of_ble_eq_true rfl) (fs1 := [.int 1, .int 1, .int 0, .int 0, .ref q1, .ref q2, .null, .null, .null]) rfl ?_
  refine a_aload_n dX2_init_40 rfl rfl ?_
  refine a_bipush (v := 8) dX2_init_41 (by decide) ?_
  refine a_newa (t := 0) (N := 8) (f0 := .inl (fun _ => 0)) dX2_init_43 ac_int rfl (fun _ _ => rfl) rfl (fun _ => rfl) (by decide) (by decide) (by decide) (Nat.le_of_ble_eq_true rfl) (Nat.le_of_ble_eq_true rfl) (fun q3 => ?_)
  refine a_eq (ws1 := (a, .inr (2, [.int 1, .int 1, .int 0, .int 0, .ref q1, .ref q2, .null, .null, .null])) :: ((([] ++ [(q1, .inl (gCy G 0, 16, .inl (fun _ => 0)))]) ++ [(q2, .inl (gCy G 0, 16, .inl (fun _ => 0)))]) ++ [(q3, .inl (gCy G 0, 8, .inl (fun _ => 0)))])) rfl ?_
  refine a_putF dX2_init_45 fl_X2_31 rfl rfl pf_2_6 rfl rfl (Nat.le_of_ble_eq_true rfl) (fs1 := [.int 1, .int 1, .int 0, .int 0, .ref q1, .ref q2, .ref q3, .null, .null]) rfl ?_
  refine a_aload_n dX2_init_48 rfl rfl ?_
  refine a_bipush (v := 10) dX2_init_49 (by decide) ?_
  refine a_newa (t := 0) (N := 10) (f0 := .inl (fun _ => 0)) dX2_init_51 ac_int rfl (fun _ _ => rfl) rfl (fun _ => rfl) (by decide) (by decide) (by decide) (Nat.le_of_ble_eq_true rfl) (Nat.le_of_ble_eq_true rfl) (fun q4 => ?_)
  refine a_eq (ws1 := (a, .inr (2, [.int 1, .int 1, .int 0, .int 0, .ref q1, .ref q2, .ref q3, .null, .null])) :: (((([] ++ [(q1, .inl (gCy G 0, 16, .inl (fun _ => 0)))]) ++ [(q2, .inl (gCy G 0, 16, .inl (fun _ => 0)))]) ++ [(q3, .inl (gCy G 0, 8, .inl (fun _ => 0)))]) ++ [(q4, .inl (gCy G 0, 10, .inl (fun _ => 0)))])) rfl ?_
  refine a_putF dX2_init_53 fl_X2_34 rfl rfl pf_2_7 rfl rfl (Nat.le_of_ble_eq_true rfl) (fs1 := [.int 1, .int 1, .int 0, .int 0, .ref q1, .ref q2, .ref q3, .ref q4, .null]) rfl ?_
  refine a_aload_n dX2_init_56 rfl rfl ?_
  refine a_sipush (v := 160) dX2_init_57 (by decide) ?_
  refine a_newa (t := 0) (N := 160) (f0 := .inl (fun _ => 0)) dX2_init_60 ac_int rfl (fun _ _ => rfl) rfl (fun _ => rfl) (by decide) (by decide) (by decide) (Nat.le_of_ble_eq_true rfl) (Nat.le_of_ble_eq_true rfl) (fun q5 => ?_)
  refine a_eq (ws1 := (a, .inr (2, [.int 1, .int 1, .int 0, .int 0, .ref q1, .ref q2, .ref q3, .ref q4, .null])) :: ((((([] ++ [(q1, .inl (gCy G 0, 16, .inl (fun _ => 0)))]) ++ [(q2, .inl (gCy G 0, 16, .inl (fun _ => 0)))]) ++ [(q3, .inl (gCy G 0, 8, .inl (fun _ => 0)))]) ++ [(q4, .inl (gCy G 0, 10, .inl (fun _ => 0)))]) ++ [(q5, .inl (gCy G 0, 160, .inl (fun _ => 0)))])) rfl ?_
  refine a_putF dX2_init_62 fl_X2_37 rfl rfl pf_2_8 rfl rfl (Nat.le_of_ble_eq_true rfl) (fs1 := [.int 1, .int 1, .int 0, .int 0, .ref q1, .ref q2, .ref q3, .ref q4, .ref q5]) rfl ?_
  exact a_ret (q1, q2, q3, q4, q5) dX2_init_65 (List.Perm.refl _) (Nat.le_of_ble_eq_true rfl) (Nat.le_of_ble_eq_true rfl)
theorem dX10_init_0 : decode cX10_init 0 = .ok (.aload_n 0, 1) := by decide +kernel
theorem dX10_init_1 : decode cX10_init 1 = .ok (.invokespecial 3, 3) := by decide +kernel
theorem dX10_init_4 : decode cX10_init 4 = .ok (.aload_n 0, 1) := by decide +kernel
theorem dX10_init_5 : decode cX10_init 5 = .ok (.iconst (-1), 1) := by decide +kernel
theorem dX10_init_6 : decode cX10_init 6 = .ok (.putfield 9, 3) := by decide +kernel
theorem dX10_init_9 : decode cX10_init 9 = .ok (.aload_n 0, 1) := by decide +kernel
theorem dX10_init_10 : decode cX10_init 10 = .ok (.iconst 0, 1) := by decide +kernel
theorem dX10_init_11 : decode cX10_init 11 = .ok (.putfield 15, 3) := by decide +kernel
theorem dX10_init_14 : decode cX10_init 14 = .ok (.aload_n 0, 1) := by decide +kernel
theorem dX10_init_15 : decode cX10_init 15 = .ok (.bipush 40, 2) := by decide +kernel
theorem dX10_init_17 : decode cX10_init 17 = .ok (.newarray .long, 2) := by decide +kernel
theorem dX10_init_19 : decode cX10_init 19 = .ok (.putfield 18, 3) := by decide +kernel
theorem dX10_init_22 : decode cX10_init 22 = .ok (.return_, 1) := by decide +kernel
theorem ml_X10_3 : Cond.methodLink RX10 3 objectInit ∈ Wd := mW 365 (by decide +kernel) rfl
theorem ac_long : Cond.arrayClass .long ∈ Wd := mW 378 (by decide +kernel) rfl
theorem pf_10_2 : parseFieldDescriptor (uD 10 2) = some (.array .long) := by decide +kernel
abbrev S10 : Type := Nat
def Wc10 (G : Gx) (a : Nat) (u : S10) : va_W := (a, .inr (10, [.int (-1), .int 0, .ref (u)])) :: ([] ++ [((u), .inl (gCy G 1, 40, .inr (.inl (fun _ => 0))))])
set_option maxHeartbeats 4000000 in
set_option maxRecDepth 20000 in
theorem c_ini_10 (G : Gx) : CtA yX10_init cX10_init 1 1 1 40 G 10 [.int 0, .int 0, .null] (Wc10 G) := by
  refine cta_go (own := RX10) (by decide) rfl rfl (by decide) (fun a sz => ?_)
  refine a_aload_n dX10_init_0 rfl rfl ?_
  refine a_obj dX10_init_1 ml_X10_3 (by decide) (by decide) ?_
  refine a_aload_n dX10_init_4 rfl rfl ?_
  refine a_iconst (v := (-1)) dX10_init_5 (by decide) ?_
  refine a_put dX10_init_6 fl_X10_9 rfl pf_10_0 rfl rfl (Nat.le_of_ble_eq_true rfl) (fs1 := [.int (-1), .int 0, .null]) rfl ?_
  refine a_aload_n dX10_init_9 rfl rfl ?_
  refine a_iconst (v := 0) dX10_init_10 (by decide) ?_
  refine a_put dX10_init_11 fl_X10_15 rfl pf_10_1 rfl rfl (Nat.le_of_ble_eq_true rfl) (fs1 := [.int (-1), .int 0, .null]) rfl ?_
  refine a_aload_n dX10_init_14 rfl rfl ?_
  refine a_bipush (v := 40) dX10_init_15 (by decide) ?_
  refine a_newa (t := 1) (N := 40) (f0 := .inr (.inl (fun _ => 0))) dX10_init_17 ac_long rfl (fun _ _ => rfl) rfl (fun _ => rfl) (by decide) (by decide) (by decide) (Nat.le_of_ble_eq_true rfl) (Nat.le_of_ble_eq_true rfl) (fun q1 => ?_)
  refine a_eq (ws1 := (a, .inr (10, [.int (-1), .int 0, .null])) :: ([] ++ [(q1, .inl (gCy G 1, 40, .inr (.inl (fun _ => 0))))])) rfl ?_
  refine a_putF dX10_init_19 fl_X10_18 rfl rfl pf_10_2 rfl rfl (Nat.le_of_ble_eq_true rfl) (fs1 := [.int (-1), .int 0, .ref q1]) rfl ?_
  exact a_ret (q1) dX10_init_22 (List.Perm.refl _) (Nat.le_of_ble_eq_true rfl) (Nat.le_of_ble_eq_true rfl)
theorem dX8_init_0 : decode cX8_init 0 = .ok (.aload_n 0, 1) := by decide +kernel
theorem dX8_init_1 : decode cX8_init 1 = .ok (.invokespecial 3, 3) := by decide +kernel
theorem dX8_init_4 : decode cX8_init 4 = .ok (.aload_n 0, 1) := by decide +kernel
theorem dX8_init_5 : decode cX8_init 5 = .ok (.aconst_null, 1) := by decide +kernel
theorem dX8_init_6 : decode cX8_init 6 = .ok (.putfield 9, 3) := by decide +kernel
theorem dX8_init_9 : decode cX8_init 9 = .ok (.aload_n 0, 1) := by decide +kernel
theorem dX8_init_10 : decode cX8_init 10 = .ok (.iconst 0, 1) := by decide +kernel
theorem dX8_init_11 : decode cX8_init 11 = .ok (.putfield 15, 3) := by decide +kernel
theorem dX8_init_14 : decode cX8_init 14 = .ok (.aload_n 0, 1) := by decide +kernel
theorem dX8_init_15 : decode cX8_init 15 = .ok (.iconst 0, 1) := by decide +kernel
theorem dX8_init_16 : decode cX8_init 16 = .ok (.putfield 19, 3) := by decide +kernel
theorem dX8_init_19 : decode cX8_init 19 = .ok (.aload_n 0, 1) := by decide +kernel
theorem dX8_init_20 : decode cX8_init 20 = .ok (.bipush 8, 2) := by decide +kernel
theorem dX8_init_22 : decode cX8_init 22 = .ok (.newarray .int, 2) := by decide +kernel
theorem dX8_init_24 : decode cX8_init 24 = .ok (.putfield 22, 3) := by decide +kernel
theorem dX8_init_27 : decode cX8_init 27 = .ok (.aload_n 0, 1) := by decide +kernel
theorem dX8_init_28 : decode cX8_init 28 = .ok (.bipush 8, 2) := by decide +kernel
theorem dX8_init_30 : decode cX8_init 30 = .ok (.newarray .int, 2) := by decide +kernel
theorem dX8_init_32 : decode cX8_init 32 = .ok (.putfield 26, 3) := by decide +kernel
theorem dX8_init_35 : decode cX8_init 35 = .ok (.aload_n 0, 1) := by decide +kernel
theorem dX8_init_36 : decode cX8_init 36 = .ok (.bipush 8, 2) := by decide +kernel
theorem dX8_init_38 : decode cX8_init 38 = .ok (.newarray .int, 2) := by decide +kernel
theorem dX8_init_40 : decode cX8_init 40 = .ok (.putfield 29, 3) := by decide +kernel
theorem dX8_init_43 : decode cX8_init 43 = .ok (.aload_n 0, 1) := by decide +kernel
theorem dX8_init_44 : decode cX8_init 44 = .ok (.bipush 8, 2) := by decide +kernel
theorem dX8_init_46 : decode cX8_init 46 = .ok (.newarray .int, 2) := by decide +kernel
theorem dX8_init_48 : decode cX8_init 48 = .ok (.putfield 32, 3) := by decide +kernel
theorem dX8_init_51 : decode cX8_init 51 = .ok (.aload_n 0, 1) := by decide +kernel
theorem dX8_init_52 : decode cX8_init 52 = .ok (.bipush 8, 2) := by decide +kernel
theorem dX8_init_54 : decode cX8_init 54 = .ok (.newarray .int, 2) := by decide +kernel
theorem dX8_init_56 : decode cX8_init 56 = .ok (.putfield 35, 3) := by decide +kernel
theorem dX8_init_59 : decode cX8_init 59 = .ok (.aload_n 0, 1) := by decide +kernel
theorem dX8_init_60 : decode cX8_init 60 = .ok (.bipush 8, 2) := by decide +kernel
theorem dX8_init_62 : decode cX8_init 62 = .ok (.newarray .int, 2) := by decide +kernel
theorem dX8_init_64 : decode cX8_init 64 = .ok (.putfield 38, 3) := by decide +kernel
theorem dX8_init_67 : decode cX8_init 67 = .ok (.aload_n 0, 1) := by decide +kernel
theorem dX8_init_68 : decode cX8_init 68 = .ok (.iconst 0, 1) := by decide +kernel
theorem dX8_init_69 : decode cX8_init 69 = .ok (.putfield 41, 3) := by decide +kernel
theorem dX8_init_72 : decode cX8_init 72 = .ok (.return_, 1) := by decide +kernel
theorem ml_X8_3 : Cond.methodLink RX8 3 objectInit ∈ Wd := mW 247 (by decide +kernel) rfl
theorem pf_8_3 : parseFieldDescriptor (uD 8 3) = some (.array .int) := by decide +kernel
theorem pf_8_4 : parseFieldDescriptor (uD 8 4) = some (.array .int) := by decide +kernel
theorem pf_8_5 : parseFieldDescriptor (uD 8 5) = some (.array .int) := by decide +kernel
theorem pf_8_6 : parseFieldDescriptor (uD 8 6) = some (.array .int) := by decide +kernel
theorem pf_8_7 : parseFieldDescriptor (uD 8 7) = some (.array .int) := by decide +kernel
theorem pf_8_8 : parseFieldDescriptor (uD 8 8) = some (.array .int) := by decide +kernel
abbrev S8 : Type := Nat × Nat × Nat × Nat × Nat × Nat
def Wc8 (G : Gx) (a : Nat) (u : S8) : va_W := (a, .inr (8, [.null, .int 0, .int 0, .ref (u.1), .ref (u.2.1), .ref (u.2.2.1), .ref (u.2.2.2.1), .ref (u.2.2.2.2.1), .ref (u.2.2.2.2.2), .int 0])) :: (((((([] ++ [((u.1), .inl (gCy G 0, 8, .inl (fun _ => 0)))]) ++ [((u.2.1), .inl (gCy G 0, 8, .inl (fun _ => 0)))]) ++ [((u.2.2.1), .inl (gCy G 0, 8, .inl (fun _ => 0)))]) ++ [((u.2.2.2.1), .inl (gCy G 0, 8, .inl (fun _ => 0)))]) ++ [((u.2.2.2.2.1), .inl (gCy G 0, 8, .inl (fun _ => 0)))]) ++ [((u.2.2.2.2.2), .inl (gCy G 0, 8, .inl (fun _ => 0)))])
set_option maxHeartbeats 4000000 in
set_option maxRecDepth 20000 in
theorem c_ini_8 (G : Gx) : CtA yX8_init cX8_init 1 1 6 48 G 8 [.null, .int 0, .int 0, .null, .null, .null, .null, .null, .null, .int 0] (Wc8 G) := by
  refine cta_go (own := RX8) (by decide) rfl rfl (by decide) (fun a sz => ?_)
  refine a_aload_n dX8_init_0 rfl rfl ?_
  refine a_obj dX8_init_1 ml_X8_3 (by decide) (by decide) ?_
  refine a_aload_n dX8_init_4 rfl rfl ?_
  refine a_null dX8_init_5 ?_
  refine a_put dX8_init_6 fl_X8_9 rfl pf_8_0 rfl rfl (Nat.le_of_ble_eq_true rfl) (fs1 := [.null, .int 0, .int 0, .null, .null, .null, .null, .null, .null, .int 0]) rfl ?_
  refine a_aload_n dX8_init_9 rfl rfl ?_
  refine a_iconst (v := 0) dX8_init_10 (by decide) ?_
  refine a_put dX8_init_11 fl_X8_15 rfl pf_8_1 rfl rfl (Nat.le_of_ble_eq_true rfl) (fs1 := [.null, .int 0, .int 0, .null, .null, .null, .null, .null, .null, .int 0]) rfl ?_
  refine a_aload_n dX8_init_14 rfl rfl ?_
  refine a_iconst (v := 0) dX8_init_15 (by decide) ?_
  refine a_put dX8_init_16 fl_X8_19 rfl pf_8_2 rfl rfl (Nat.le_of_ble_eq_true rfl) (fs1 := [.null, .int 0, .int 0, .null, .null, .null, .null, .null, .null, .int 0]) rfl ?_
  refine a_aload_n dX8_init_19 rfl rfl ?_
  refine a_bipush (v := 8) dX8_init_20 (by decide) ?_
  refine a_newa (t := 0) (N := 8) (f0 := .inl (fun _ => 0)) dX8_init_22 ac_int rfl (fun _ _ => rfl) rfl (fun _ => rfl) (by decide) (by decide) (by decide) (Nat.le_of_ble_eq_true rfl) (Nat.le_of_ble_eq_true rfl) (fun q1 => ?_)
  refine a_eq (ws1 := (a, .inr (8, [.null, .int 0, .int 0, .null, .null, .null, .null, .null, .null, .int 0])) :: ([] ++ [(q1, .inl (gCy G 0, 8, .inl (fun _ => 0)))])) rfl ?_
  refine a_putF dX8_init_24 fl_X8_22 rfl rfl pf_8_3 rfl rfl (Nat.le_of_ble_eq_true rfl) (fs1 := [.null, .int 0, .int 0, .ref q1, .null, .null, .null, .null, .null, .int 0]) rfl ?_
  refine a_aload_n dX8_init_27 rfl rfl ?_
  refine a_bipush (v := 8) dX8_init_28 (by decide) ?_
  refine a_newa (t := 0) (N := 8) (f0 := .inl (fun _ => 0)) dX8_init_30 ac_int rfl (fun _ _ => rfl) rfl (fun _ => rfl) (by decide) (by decide) (by decide) (Nat.le_of_ble_eq_true rfl) (Nat.le_of_ble_eq_true rfl) (fun q2 => ?_)
  refine a_eq (ws1 := (a, .inr (8, [.null, .int 0, .int 0, .ref q1, .null, .null, .null, .null, .null, .int 0])) :: (([] ++ [(q1, .inl (gCy G 0, 8, .inl (fun _ => 0)))]) ++ [(q2, .inl (gCy G 0, 8, .inl (fun _ => 0)))])) rfl ?_
  refine a_putF dX8_init_32 fl_X8_26 rfl rfl pf_8_4 rfl rfl (Nat.le_of_ble_eq_true rfl) (fs1 := [.null, .int 0, .int 0, .ref q1, .ref q2, .null, .null, .null, .null, .int 0]) rfl ?_
  refine a_aload_n dX8_init_35 rfl rfl ?_
  refine a_bipush (v := 8) dX8_init_36 (by decide) ?_
  refine a_newa (t := 0) (N := 8) (f0 := .inl (fun _ => 0)) dX8_init_38 ac_int rfl (fun _ _ => rfl) rfl (fun _ => rfl) (by decide) (by decide) (by decide) (Nat.le_of_ble_eq_true rfl) (Nat.le_of_ble_eq_true rfl) (fun q3 => ?_)
  refine a_eq (ws1 := (a, .inr (8, [.null, .int 0, .int 0, .ref q1, .ref q2, .null, .null, .null, .null, .int 0])) :: ((([] ++ [(q1, .inl (gCy G 0, 8, .inl (fun _ => 0)))]) ++ [(q2, .inl (gCy G 0, 8, .inl (fun _ => 0)))]) ++ [(q3, .inl (gCy G 0, 8, .inl (fun _ => 0)))])) rfl ?_
  refine a_putF dX8_init_40 fl_X8_29 rfl rfl pf_8_5 rfl rfl (Nat.le_of_ble_eq_true rfl) (fs1 := [.null, .int 0, .int 0, .ref q1, .ref q2, .ref q3, .null, .null, .null, .int 0]) rfl ?_
  refine a_aload_n dX8_init_43 rfl rfl ?_
  refine a_bipush (v := 8) dX8_init_44 (by decide) ?_
  refine a_newa (t := 0) (N := 8) (f0 := .inl (fun _ => 0)) dX8_init_46 ac_int rfl (fun _ _ => rfl) rfl (fun _ => rfl) (by decide) (by decide) (by decide) (Nat.le_of_ble_eq_true rfl) (Nat.le_of_ble_eq_true rfl) (fun q4 => ?_)
  refine a_eq (ws1 := (a, .inr (8, [.null, .int 0, .int 0, .ref q1, .ref q2, .ref q3, .null, .null, .null, .int 0])) :: (((([] ++ [(q1, .inl (gCy G 0, 8, .inl (fun _ => 0)))]) ++ [(q2, .inl (gCy G 0, 8, .inl (fun _ => 0)))]) ++ [(q3, .inl (gCy G 0, 8, .inl (fun _ => 0)))]) ++ [(q4, .inl (gCy G 0, 8, .inl (fun _ => 0)))])) rfl ?_
  refine a_putF dX8_init_48 fl_X8_32 rfl rfl pf_8_6 rfl rfl (Nat.le_of_ble_eq_true rfl) (fs1 := [.null, .int 0, .int 0, .ref q1, .ref q2, .ref q3, .ref q4, .null, .null, .int 0]) rfl ?_
  refine a_aload_n dX8_init_51 rfl rfl ?_
  refine a_bipush (v := 8) dX8_init_52 (by decide) ?_
  refine a_newa (t := 0) (N := 8) (f0 := .inl (fun _ => 0)) dX8_init_54 ac_int rfl (fun _ _ => rfl) rfl (fun _ => rfl) (by decide) (by decide) (by decide) (Nat.le_of_ble_eq_true rfl) (Nat.le_of_ble_eq_true rfl) (fun q5 => ?_)
  refine a_eq (ws1 := (a, .inr (8, [.null, .int 0, .int 0, .ref q1, .ref q2, .ref q3, .ref q4, .null, .null, .int 0])) :: ((((([] ++ [(q1, .inl (gCy G 0, 8, .inl (fun _ => 0)))]) ++ [(q2, .inl (gCy G 0, 8, .inl (fun _ => 0)))]) ++ [(q3, .inl (gCy G 0, 8, .inl (fun _ => 0)))]) ++ [(q4, .inl (gCy G 0, 8, .inl (fun _ => 0)))]) ++ [(q5, .inl (gCy G 0, 8, .inl (fun _ => 0)))])) rfl ?_
  refine a_putF dX8_init_56 fl_X8_35 rfl rfl pf_8_7 rfl rfl (Nat.le_of_ble_eq_true rfl) (fs1 := [.null, .int 0, .int 0, .ref q1, .ref q2, .ref q3, .ref q4, .ref q5, .null, .int 0]) rfl ?_
  refine a_aload_n dX8_init_59 rfl rfl ?_
  refine a_bipush (v := 8) dX8_init_60 (by decide) ?_
  refine a_newa (t := 0) (N := 8) (f0 := .inl (fun _ => 0)) dX8_init_62 ac_int rfl (fun _ _ => rfl) rfl (fun _ => rfl) (by decide) (by decide) (by decide) (Nat.le_of_ble_eq_true rfl) (Nat.le_of_ble_eq_true rfl) (fun q6 => ?_)
  refine a_eq (ws1 := (a, .inr (8, [.null, .int 0, .int 0, .ref q1, .ref q2, .ref q3, .ref q4, .ref q5, .null, .int 0])) :: (((((([] ++ [(q1, .inl (gCy G 0, 8, .inl (fun _ => 0)))]) ++ [(q2, .inl (gCy G 0, 8, .inl (fun _ => 0)))]) ++ [(q3, .inl (gCy G 0, 8, .inl (fun _ => 0)))]) ++ [(q4, .inl (gCy G 0, 8, .inl (fun _ => 0)))]) ++ [(q5, .inl (gCy G 0, 8, .inl (fun _ => 0)))]) ++ [(q6, .inl (gCy G 0, 8, .inl (fun _ => 0)))])) rfl ?_
  refine a_putF dX8_init_64 fl_X8_38 rfl rfl pf_8_8 rfl rfl (Nat.le_of_ble_eq_true rfl) (fs1 := [.null, .int 0, .int 0, .ref q1, .ref q2, .ref q3, .ref q4, .ref q5, .ref q6, .int 0]) rfl ?_
  refine a_aload_n dX8_init_67 rfl rfl ?_
  refine a_iconst (v := 0) dX8_init_68 (by decide) ?_
  refine a_put dX8_init_69 fl_X8_41 rfl pf_8_9 rfl rfl (Nat.le_of_ble_eq_true rfl) (fs1 := [.null, .int 0, .int 0, .ref q1, .ref q2, .ref q3, .ref q4, .ref q5, .ref q6, .int 0]) rfl ?_
  exact a_ret (q1, q2, q3, q4, q5, q6) dX8_init_72 (List.Perm.refl _) (Nat.le_of_ble_eq_true rfl) (Nat.le_of_ble_eq_true rfl)
theorem dX0_init_0 : decode cX0_init 0 = .ok (.aload_n 0, 1) := by decide +kernel
theorem dX0_init_1 : decode cX0_init 1 = .ok (.invokespecial 3, 3) := by decide +kernel
theorem dX0_init_4 : decode cX0_init 4 = .ok (.aload_n 0, 1) := by decide +kernel
theorem dX0_init_5 : decode cX0_init 5 = .ok (.iconst (-1), 1) := by decide +kernel
theorem dX0_init_6 : decode cX0_init 6 = .ok (.putfield 9, 3) := by decide +kernel
theorem dX0_init_9 : decode cX0_init 9 = .ok (.aload_n 0, 1) := by decide +kernel
theorem dX0_init_10 : decode cX0_init 10 = .ok (.bipush 8, 2) := by decide +kernel
theorem dX0_init_12 : decode cX0_init 12 = .ok (.newarray .int, 2) := by decide +kernel
theorem dX0_init_14 : decode cX0_init 14 = .ok (.putfield 15, 3) := by decide +kernel
theorem dX0_init_17 : decode cX0_init 17 = .ok (.aload_n 0, 1) := by decide +kernel
theorem dX0_init_18 : decode cX0_init 18 = .ok (.bipush 8, 2) := by decide +kernel
theorem dX0_init_20 : decode cX0_init 20 = .ok (.newarray .int, 2) := by decide +kernel
theorem dX0_init_22 : decode cX0_init 22 = .ok (.putfield 19, 3) := by decide +kernel
theorem dX0_init_25 : decode cX0_init 25 = .ok (.aload_n 0, 1) := by decide +kernel
theorem dX0_init_26 : decode cX0_init 26 = .ok (.bipush 8, 2) := by decide +kernel
theorem dX0_init_28 : decode cX0_init 28 = .ok (.newarray .int, 2) := by decide +kernel
theorem dX0_init_30 : decode cX0_init 30 = .ok (.putfield 22, 3) := by decide +kernel
theorem dX0_init_33 : decode cX0_init 33 = .ok (.aload_n 0, 1) := by decide +kernel
theorem dX0_init_34 : decode cX0_init 34 = .ok (.bipush 8, 2) := by decide +kernel
theorem dX0_init_36 : decode cX0_init 36 = .ok (.newarray .int, 2) := by decide +kernel
theorem dX0_init_38 : decode cX0_init 38 = .ok (.putfield 25, 3) := by decide +kernel
theorem dX0_init_41 : decode cX0_init 41 = .ok (.aload_n 0, 1) := by decide +kernel
theorem dX0_init_42 : decode cX0_init 42 = .ok (.bipush 8, 2) := by decide +kernel
theorem dX0_init_44 : decode cX0_init 44 = .ok (.newarray .int, 2) := by decide +kernel
theorem dX0_init_46 : decode cX0_init 46 = .ok (.putfield 28, 3) := by decide +kernel
theorem dX0_init_49 : decode cX0_init 49 = .ok (.aload_n 0, 1) := by decide +kernel
theorem dX0_init_50 : decode cX0_init 50 = .ok (.bipush 8, 2) := by decide +kernel
theorem dX0_init_52 : decode cX0_init 52 = .ok (.newarray .int, 2) := by decide +kernel
theorem dX0_init_54 : decode cX0_init 54 = .ok (.putfield 31, 3) := by decide +kernel
theorem dX0_init_57 : decode cX0_init 57 = .ok (.return_, 1) := by decide +kernel
theorem ml_X0_3 : Cond.methodLink RX0 3 objectInit ∈ Wd := mW 289 (by decide +kernel) rfl
theorem pf_0_1 : parseFieldDescriptor (uD 0 1) = some (.array .int) := by decide +kernel
theorem pf_0_2 : parseFieldDescriptor (uD 0 2) = some (.array .int) := by decide +kernel
theorem pf_0_3 : parseFieldDescriptor (uD 0 3) = some (.array .int) := by decide +kernel
theorem pf_0_4 : parseFieldDescriptor (uD 0 4) = some (.array .int) := by decide +kernel
theorem pf_0_5 : parseFieldDescriptor (uD 0 5) = some (.array .int) := by decide +kernel
theorem pf_0_6 : parseFieldDescriptor (uD 0 6) = some (.array .int) := by decide +kernel
abbrev S0 : Type := Nat × Nat × Nat × Nat × Nat × Nat
def Wc0 (G : Gx) (a : Nat) (u : S0) : va_W := (a, .inr (0, [.int (-1), .ref (u.1), .ref (u.2.1), .ref (u.2.2.1), .ref (u.2.2.2.1), .ref (u.2.2.2.2.1), .ref (u.2.2.2.2.2)])) :: (((((([] ++ [((u.1), .inl (gCy G 0, 8, .inl (fun _ => 0)))]) ++ [((u.2.1), .inl (gCy G 0, 8, .inl (fun _ => 0)))]) ++ [((u.2.2.1), .inl (gCy G 0, 8, .inl (fun _ => 0)))]) ++ [((u.2.2.2.1), .inl (gCy G 0, 8, .inl (fun _ => 0)))]) ++ [((u.2.2.2.2.1), .inl (gCy G 0, 8, .inl (fun _ => 0)))]) ++ [((u.2.2.2.2.2), .inl (gCy G 0, 8, .inl (fun _ => 0)))])
set_option maxHeartbeats 4000000 in
set_option maxRecDepth 20000 in
theorem c_ini_0 (G : Gx) : CtA yX0_init cX0_init 1 1 6 48 G 0 [.int 0, .null, .null, .null, .null, .null, .null] (Wc0 G) := by
  refine cta_go (own := RX0) (by decide) rfl rfl (by decide) (fun a sz => ?_)
  refine a_aload_n dX0_init_0 rfl rfl ?_
  refine a_obj dX0_init_1 ml_X0_3 (by decide) (by decide) ?_
  refine a_aload_n dX0_init_4 rfl rfl ?_
  refine a_iconst (v := (-1)) dX0_init_5 (by decide) ?_
  refine a_put dX0_init_6 fl_X0_9 rfl pf_0_0 rfl rfl (Nat.le_of_ble_eq_true rfl) (fs1 := [.int (-1), .null, .null, .null, .null, .null, .null]) rfl ?_
  refine a_aload_n dX0_init_9 rfl rfl ?_
  refine a_bipush (v := 8) dX0_init_10 (by decide) ?_
  refine a_newa (t := 0) (N := 8) (f0 := .inl (fun _ => 0)) dX0_init_12 ac_int rfl (fun _ _ => rfl) rfl (fun _ => rfl) (by decide) (by decide) (by decide) (Nat.le_of_ble_eq_true rfl) (Nat.le_of_ble_eq_true rfl) (fun q1 => ?_)
  refine a_eq (ws1 := (a, .inr (0, [.int (-1), .null, .null, .null, .null, .null, .null])) :: ([] ++ [(q1, .inl (gCy G 0, 8, .inl (fun _ => 0)))])) rfl ?_
  refine a_putF dX0_init_14 fl_X0_15 rfl rfl pf_0_1 rfl rfl (Nat.le_of_ble_eq_true rfl) (fs1 := [.int (-1), .ref q1, .null, .null, .null, .null, .null]) rfl ?_
  refine a_aload_n dX0_init_17 rfl rfl ?_
  refine a_bipush (v := 8) dX0_init_18 (by decide) ?_
  refine a_newa (t := 0) (N := 8) (f0 := .inl (fun _ => 0)) dX0_init_20 ac_int rfl (fun _ _ => rfl) rfl (fun _ => rfl) (by decide) (by decide) (by decide) (Nat.le_of_ble_eq_true rfl) (Nat.le_of_ble_eq_true rfl) (fun q2 => ?_)
  refine a_eq (ws1 := (a, .inr (0, [.int (-1), .ref q1, .null, .null, .null, .null, .null])) :: (([] ++ [(q1, .inl (gCy G 0, 8, .inl (fun _ => 0)))]) ++ [(q2, .inl (gCy G 0, 8, .inl (fun _ => 0)))])) rfl ?_
  refine a_putF dX0_init_22 fl_X0_19 rfl rfl pf_0_2 rfl rfl (Nat.le_of_ble_eq_true rfl) (fs1 := [.int (-1), .ref q1, .ref q2, .null, .null, .null, .null]) rfl ?_
  refine a_aload_n dX0_init_25 rfl rfl ?_
  refine a_bipush (v := 8) dX0_init_26 (by decide) ?_
  refine a_newa (t := 0) (N := 8) (f0 := .inl (fun _ => 0)) dX0_init_28 ac_int rfl (fun _ _ => rfl) rfl (fun _ => rfl) (by decide) (by decide) (by decide) (Nat.le_of_ble_eq_true rfl) (Nat.le_of_ble_eq_true rfl) (fun q3 => ?_)
  refine a_eq (ws1 := (a, .inr (0, [.int (-1), .ref q1, .ref q2, .null, .null, .null, .null])) :: ((([] ++ [(q1, .inl (gCy G 0, 8, .inl (fun _ => 0)))]) ++ [(q2, .inl (gCy G 0, 8, .inl (fun _ => 0)))]) ++ [(q3, .inl (gCy G 0, 8, .inl (fun _ => 0)))])) rfl ?_
  refine a_putF dX0_init_30 fl_X0_22 rfl rfl pf_0_3 rfl rfl (Nat.le_of_ble_eq_true rfl) (fs1 := [.int (-1), .ref q1, .ref q2, .ref q3, .null, .null, .null]) rfl ?_
  refine a_aload_n dX0_init_33 rfl rfl ?_
  refine a_bipush (v := 8) dX0_init_34 (by decide) ?_
  refine a_newa (t := 0) (N := 8) (f0 := .inl (fun _ => 0)) dX0_init_36 ac_int rfl (fun _ _ => rfl) rfl (fun _ => rfl) (by decide) (by decide) (by decide) (Nat.le_of_ble_eq_true rfl) (Nat.le_of_ble_eq_true rfl) (fun q4 => ?_)
  refine a_eq (ws1 := (a, .inr (0, [.int (-1), .ref q1, .ref q2, .ref q3, .null, .null, .null])) :: (((([] ++ [(q1, .inl (gCy G 0, 8, .inl (fun _ => 0)))]) ++ [(q2, .inl (gCy G 0, 8, .inl (fun _ => 0)))]) ++ [(q3, .inl (gCy G 0, 8, .inl (fun _ => 0)))]) ++ [(q4, .inl (gCy G 0, 8, .inl (fun _ => 0)))])) rfl ?_
  refine a_putF dX0_init_38 fl_X0_25 rfl rfl pf_0_4 rfl rfl (Nat.le_of_ble_eq_true rfl) (fs1 := [.int (-1), .ref q1, .ref q2, .ref q3, .ref q4, .null, .null]) rfl ?_
  refine a_aload_n dX0_init_41 rfl rfl ?_
  refine a_bipush (v := 8) dX0_init_42 (by decide) ?_
  refine a_newa (t := 0) (N := 8) (f0 := .inl (fun _ => 0)) dX0_init_44 ac_int rfl (fun _ _ => rfl) rfl (fun _ => rfl) (by decide) (by decide) (by decide) (Nat.le_of_ble_eq_true rfl) (Nat.le_of_ble_eq_true rfl) (fun q5 => ?_)
  refine a_eq (ws1 := (a, .inr (0, [.int (-1), .ref q1, .ref q2, .ref q3, .ref q4, .null, .null])) :: ((((([] ++ [(q1, .inl (gCy G 0, 8, .inl (fun _ => 0)))]) ++ [(q2, .inl (gCy G 0, 8, .inl (fun _ => 0)))]) ++ [(q3, .inl (gCy G 0, 8, .inl (fun _ => 0)))]) ++ [(q4, .inl (gCy G 0, 8, .inl (fun _ => 0)))]) ++ [(q5, .inl (gCy G 0, 8, .inl (fun _ => 0)))])) rfl ?_
  refine a_putF dX0_init_46 fl_X0_28 rfl rfl pf_0_5 rfl rfl (Nat.le_of_ble_eq_true rfl) (fs1 := [.int (-1), .ref q1, .ref q2, .ref q3, .ref q4, .ref q5, .null]) rfl ?_
  refine a_aload_n dX0_init_49 rfl rfl ?_
  refine a_bipush (v := 8) dX0_init_50 (by decide) ?_
  refine a_newa (t := 0) (N := 8) (f0 := .inl (fun _ => 0)) dX0_init_52 ac_int rfl (fun _ _ => rfl) rfl (fun _ => rfl) (by decide) (by decide) (by decide) (Nat.le_of_ble_eq_true rfl) (Nat.le_of_ble_eq_true rfl) (fun q6 => ?_)
  refine a_eq (ws1 := (a, .inr (0, [.int (-1), .ref q1, .ref q2, .ref q3, .ref q4, .ref q5, .null])) :: (((((([] ++ [(q1, .inl (gCy G 0, 8, .inl (fun _ => 0)))]) ++ [(q2, .inl (gCy G 0, 8, .inl (fun _ => 0)))]) ++ [(q3, .inl (gCy G 0, 8, .inl (fun _ => 0)))]) ++ [(q4, .inl (gCy G 0, 8, .inl (fun _ => 0)))]) ++ [(q5, .inl (gCy G 0, 8, .inl (fun _ => 0)))]) ++ [(q6, .inl (gCy G 0, 8, .inl (fun _ => 0)))])) rfl ?_
  refine a_putF dX0_init_54 fl_X0_31 rfl rfl pf_0_6 rfl rfl (Nat.le_of_ble_eq_true rfl) (fs1 := [.int (-1), .ref q1, .ref q2, .ref q3, .ref q4, .ref q5, .ref q6]) rfl ?_
  exact a_ret (q1, q2, q3, q4, q5, q6) dX0_init_57 (List.Perm.refl _) (Nat.le_of_ble_eq_true rfl) (Nat.le_of_ble_eq_true rfl)
theorem dX1_init_0 : decode cX1_init 0 = .ok (.aload_n 0, 1) := by decide +kernel
theorem dX1_init_1 : decode cX1_init 1 = .ok (.invokespecial 3, 3) := by decide +kernel
theorem dX1_init_4 : decode cX1_init 4 = .ok (.aload_n 0, 1) := by decide +kernel
theorem dX1_init_5 : decode cX1_init 5 = .ok (.bipush 9, 2) := by decide +kernel
theorem dX1_init_7 : decode cX1_init 7 = .ok (.newarray .int, 2) := by decide +kernel
theorem dX1_init_9 : decode cX1_init 9 = .ok (.putfield 9, 3) := by decide +kernel
theorem dX1_init_12 : decode cX1_init 12 = .ok (.aload_n 0, 1) := by decide +kernel
theorem dX1_init_13 : decode cX1_init 13 = .ok (.bipush 9, 2) := by decide +kernel
theorem dX1_init_15 : decode cX1_init 15 = .ok (.newarray .int, 2) := by decide +kernel
theorem dX1_init_17 : decode cX1_init 17 = .ok (.putfield 15, 3) := by decide +kernel
theorem dX1_init_20 : decode cX1_init 20 = .ok (.aload_n 0, 1) := by decide +kernel
theorem dX1_init_21 : decode cX1_init 21 = .ok (.bipush 10, 2) := by decide +kernel
theorem dX1_init_23 : decode cX1_init 23 = .ok (.newarray .int, 2) := by decide +kernel
theorem dX1_init_25 : decode cX1_init 25 = .ok (.putfield 18, 3) := by decide +kernel
theorem dX1_init_28 : decode cX1_init 28 = .ok (.aload_n 0, 1) := by decide +kernel
theorem dX1_init_29 : decode cX1_init 29 = .ok (.bipush 8, 2) := by decide +kernel
theorem dX1_init_31 : decode cX1_init 31 = .ok (.newarray .int, 2) := by decide +kernel
theorem dX1_init_33 : decode cX1_init 33 = .ok (.putfield 21, 3) := by decide +kernel
theorem dX1_init_36 : decode cX1_init 36 = .ok (.aload_n 0, 1) := by decide +kernel
theorem dX1_init_37 : decode cX1_init 37 = .ok (.iconst 0, 1) := by decide +kernel
theorem dX1_init_38 : decode cX1_init 38 = .ok (.putfield 24, 3) := by decide +kernel
theorem dX1_init_41 : decode cX1_init 41 = .ok (.aload_n 0, 1) := by decide +kernel
theorem dX1_init_42 : decode cX1_init 42 = .ok (.iconst 1, 1) := by decide +kernel
theorem dX1_init_43 : decode cX1_init 43 = .ok (.putfield 28, 3) := by decide +kernel
theorem dX1_init_46 : decode cX1_init 46 = .ok (.return_, 1) := by decide +kernel
theorem ml_X1_3 : Cond.methodLink RX1 3 objectInit ∈ Wd := mW 317 (by decide +kernel) rfl
theorem pf_1_0 : parseFieldDescriptor (uD 1 0) = some (.array .int) := by decide +kernel
theorem pf_1_1 : parseFieldDescriptor (uD 1 1) = some (.array .int) := by decide +kernel
theorem pf_1_2 : parseFieldDescriptor (uD 1 2) = some (.array .int) := by decide +kernel
theorem pf_1_3 : parseFieldDescriptor (uD 1 3) = some (.array .int) := by decide +kernel
abbrev S1 : Type := Nat × Nat × Nat × Nat
def Wc1 (G : Gx) (a : Nat) (u : S1) : va_W := (a, .inr (1, [.ref (u.1), .ref (u.2.1), .ref (u.2.2.1), .ref (u.2.2.2), .int 0, .int 1])) :: (((([] ++ [((u.1), .inl (gCy G 0, 9, .inl (fun _ => 0)))]) ++ [((u.2.1), .inl (gCy G 0, 9, .inl (fun _ => 0)))]) ++ [((u.2.2.1), .inl (gCy G 0, 10, .inl (fun _ => 0)))]) ++ [((u.2.2.2), .inl (gCy G 0, 8, .inl (fun _ => 0)))])
set_option maxHeartbeats 4000000 in
set_option maxRecDepth 20000 in
theorem c_ini_1 (G : Gx) : CtA yX1_init cX1_init 1 1 4 36 G 1 [.null, .null, .null, .null, .int 0, .int 0] (Wc1 G) := by
  refine cta_go (own := RX1) (by decide) rfl rfl (by decide) (fun a sz => ?_)
  refine a_aload_n dX1_init_0 rfl rfl ?_
  refine a_obj dX1_init_1 ml_X1_3 (by decide) (by decide) ?_
  refine a_aload_n dX1_init_4 rfl rfl ?_
  refine a_bipush (v := 9) dX1_init_5 (by decide) ?_
  refine a_newa (t := 0) (N := 9) (f0 := .inl (fun _ => 0)) dX1_init_7 ac_int rfl (fun _ _ => rfl) rfl (fun _ => rfl) (by decide) (by decide) (by decide) (Nat.le_of_ble_eq_true rfl) (Nat.le_of_ble_eq_true rfl) (fun q1 => ?_)
  refine a_eq (ws1 := (a, .inr (1, [.null, .null, .null, .null, .int 0, .int 0])) :: ([] ++ [(q1, .inl (gCy G 0, 9, .inl (fun _ => 0)))])) rfl ?_
  refine a_putF dX1_init_9 fl_X1_9 rfl rfl pf_1_0 rfl rfl (Nat.le_of_ble_eq_true rfl) (fs1 := [.ref q1, .null, .null, .null, .int 0, .int 0]) rfl ?_
  refine a_aload_n dX1_init_12 rfl rfl ?_
  refine a_bipush (v := 9) dX1_init_13 (by decide) ?_
  refine a_newa (t := 0) (N := 9) (f0 := .inl (fun _ => 0)) dX1_init_15 ac_int rfl (fun _ _ => rfl) rfl (fun _ => rfl) (by decide) (by decide) (by decide) (Nat.le_of_ble_eq_true rfl) (Nat.le_of_ble_eq_true rfl) (fun q2 => ?_)
  refine a_eq (ws1 := (a, .inr (1, [.ref q1, .null, .null, .null, .int 0, .int 0])) :: (([] ++ [(q1, .inl (gCy G 0, 9, .inl (fun _ => 0)))]) ++ [(q2, .inl (gCy G 0, 9, .inl (fun _ => 0)))])) rfl ?_
  refine a_putF dX1_init_17 fl_X1_15 rfl rfl pf_1_1 rfl rfl (Nat.le_of_ble_eq_true rfl) (fs1 := [.ref q1, .ref q2, .null, .null, .int 0, .int 0]) rfl ?_
  refine a_aload_n dX1_init_20 rfl rfl ?_
  refine a_bipush (v := 10) dX1_init_21 (by decide) ?_
  refine a_newa (t := 0) (N := 10) (f0 := .inl (fun _ => 0)) dX1_init_23 ac_int rfl (fun _ _ => rfl) rfl (fun _ => rfl) (by decide) (by decide) (by decide) (Nat.le_of_ble_eq_true rfl) (Nat.le_of_ble_eq_true rfl) (fun q3 => ?_)
  refine a_eq (ws1 := (a, .inr (1, [.ref q1, .ref q2, .null, .null, .int 0, .int 0])) :: ((([] ++ [(q1, .inl (gCy G 0, 9, .inl (fun _ => 0)))]) ++ [(q2, .inl (gCy G 0, 9, .inl (fun _ => 0)))]) ++ [(q3, .inl (gCy G 0, 10, .inl (fun _ => 0)))])) rfl ?_
  refine a_putF dX1_init_25 fl_X1_18 rfl rfl pf_1_2 rfl rfl (Nat.le_of_ble_eq_true rfl) (fs1 := [.ref q1, .ref q2, .ref q3, .null, .int 0, .int 0]) rfl ?_
  refine a_aload_n dX1_init_28 rfl rfl ?_
  refine a_bipush (v := 8) dX1_init_29 (by decide) ?_
  refine a_newa (t := 0) (N := 8) (f0 := .inl (fun _ => 0)) dX1_init_31 ac_int rfl (fun _ _ => rfl) rfl (fun _ => rfl) (by decide) (by decide) (by decide) (Nat.le_of_ble_eq_true rfl) (Nat.le_of_ble_eq_true rfl) (fun q4 => ?_)
  refine a_eq (ws1 := (a, .inr (1, [.ref q1, .ref q2, .ref q3, .null, .int 0, .int 0])) :: (((([] ++ [(q1, .inl (gCy G 0, 9, .inl (fun _ => 0)))]) ++ [(q2, .inl (gCy G 0, 9, .inl (fun _ => 0)))]) ++ [(q3, .inl (gCy G 0, 10, .inl (fun _ => 0)))]) ++ [(q4, .inl (gCy G 0, 8, .inl (fun _ => 0)))])) rfl ?_
  refine a_putF dX1_init_33 fl_X1_21 rfl rfl pf_1_3 rfl rfl (Nat.le_of_ble_eq_true rfl) (fs1 := [.ref q1, .ref q2, .ref q3, .ref q4, .int 0, .int 0]) rfl ?_
  refine a_aload_n dX1_init_36 rfl rfl ?_
  refine a_iconst (v := 0) dX1_init_37 (by decide) ?_
  refine a_put dX1_init_38 fl_X1_24 rfl pf_1_4 rfl rfl (Nat.le_of_ble_eq_true rfl) (fs1 := [.ref q1, .ref q2, .ref q3, .ref q4, .int 0, .int 0]) rfl ?_
  refine a_aload_n dX1_init_41 rfl rfl ?_
  refine a_iconst (v := 1) dX1_init_42 (by decide) ?_
  refine a_put dX1_init_43 fl_X1_28 rfl pf_1_5 rfl rfl (Nat.le_of_ble_eq_true rfl) (fs1 := [.ref q1, .ref q2, .ref q3, .ref q4, .int 0, .int 1]) rfl ?_
  exact a_ret (q1, q2, q3, q4) dX1_init_46 (List.Perm.refl _) (Nat.le_of_ble_eq_true rfl) (Nat.le_of_ble_eq_true rfl)
theorem dX7_init_0 : decode cX7_init 0 = .ok (.aload_n 0, 1) := by decide +kernel
theorem dX7_init_1 : decode cX7_init 1 = .ok (.invokespecial 3, 3) := by decide +kernel
theorem dX7_init_4 : decode cX7_init 4 = .ok (.aload_n 0, 1) := by decide +kernel
theorem dX7_init_5 : decode cX7_init 5 = .ok (.sipush 9512, 3) := by decide +kernel
theorem dX7_init_8 : decode cX7_init 8 = .ok (.newarray .int, 2) := by decide +kernel
theorem dX7_init_10 : decode cX7_init 10 = .ok (.putfield 11, 3) := by decide +kernel
theorem dX7_init_13 : decode cX7_init 13 = .ok (.aload_n 0, 1) := by decide +kernel
theorem dX7_init_14 : decode cX7_init 14 = .ok (.bipush 8, 2) := by decide +kernel
theorem dX7_init_16 : decode cX7_init 16 = .ok (.newarray .int, 2) := by decide +kernel
theorem dX7_init_18 : decode cX7_init 18 = .ok (.putfield 15, 3) := by decide +kernel
theorem dX7_init_21 : decode cX7_init 21 = .ok (.aload_n 0, 1) := by decide +kernel
theorem dX7_init_22 : decode cX7_init 22 = .ok (.bipush 8, 2) := by decide +kernel
theorem dX7_init_24 : decode cX7_init 24 = .ok (.newarray .int, 2) := by decide +kernel
theorem dX7_init_26 : decode cX7_init 26 = .ok (.putfield 18, 3) := by decide +kernel
theorem dX7_init_29 : decode cX7_init 29 = .ok (.aload_n 0, 1) := by decide +kernel
theorem dX7_init_30 : decode cX7_init 30 = .ok (.iconst 0, 1) := by decide +kernel
theorem dX7_init_31 : decode cX7_init 31 = .ok (.putfield 21, 3) := by decide +kernel
theorem dX7_init_34 : decode cX7_init 34 = .ok (.aload_n 0, 1) := by decide +kernel
theorem dX7_init_35 : decode cX7_init 35 = .ok (.iconst 1, 1) := by decide +kernel
theorem dX7_init_36 : decode cX7_init 36 = .ok (.putfield 25, 3) := by decide +kernel
theorem dX7_init_39 : decode cX7_init 39 = .ok (.return_, 1) := by decide +kernel
theorem ml_X7_3 : Cond.methodLink RX7 3 objectInit ∈ Wd := mW 344 (by decide +kernel) rfl
theorem pf_7_0 : parseFieldDescriptor (uD 7 0) = some (.array .int) := by decide +kernel
theorem pf_7_1 : parseFieldDescriptor (uD 7 1) = some (.array .int) := by decide +kernel
theorem pf_7_2 : parseFieldDescriptor (uD 7 2) = some (.array .int) := by decide +kernel
abbrev S7 : Type := Nat × Nat × Nat
def Wc7 (G : Gx) (a : Nat) (u : S7) : va_W := (a, .inr (7, [.ref (u.1), .ref (u.2.1), .ref (u.2.2), .int 0, .int 1])) :: ((([] ++ [((u.1), .inl (gCy G 0, 9512, .inl (fun _ => 0)))]) ++ [((u.2.1), .inl (gCy G 0, 8, .inl (fun _ => 0)))]) ++ [((u.2.2), .inl (gCy G 0, 8, .inl (fun _ => 0)))])
set_option maxHeartbeats 4000000 in
set_option maxRecDepth 20000 in
theorem c_ini_7 (G : Gx) : CtA yX7_init cX7_init 1 1 3 9528 G 7 [.null, .null, .null, .int 0, .int 0] (Wc7 G) := by
  refine cta_go (own := RX7) (by decide) rfl rfl (by decide) (fun a sz => ?_)
  refine a_aload_n dX7_init_0 rfl rfl ?_
  refine a_obj dX7_init_1 ml_X7_3 (by decide) (by decide) ?_
  refine a_aload_n dX7_init_4 rfl rfl ?_
  refine a_sipush (v := 9512) dX7_init_5 (by decide) ?_
  refine a_newa (t := 0) (N := 9512) (f0 := .inl (fun _ => 0)) dX7_init_8 ac_int rfl (fun _ _ => rfl) rfl (fun _ => rfl) (by decide) (by decide) (by decide) (Nat.le_of_ble_eq_true rfl) (Nat.le_of_ble_eq_true rfl) (fun q1 => ?_)
  refine a_eq (ws1 := (a, .inr (7, [.null, .null, .null, .int 0, .int 0])) :: ([] ++ [(q1, .inl (gCy G 0, 9512, .inl (fun _ => 0)))])) rfl ?_
  refine a_putF dX7_init_10 fl_X7_11 rfl rfl pf_7_0 rfl rfl (Nat.le_of_ble_eq_true rfl) (fs1 := [.ref q1, .null, .null, .int 0, .int 0]) rfl ?_
  refine a_aload_n dX7_init_13 rfl rfl ?_
  refine a_bipush (v := 8) dX7_init_14 (by decide) ?_
  refine a_newa (t := 0) (N := 8) (f0 := .inl (fun _ => 0)) dX7_init_16 ac_int rfl (fun _ _ => rfl) rfl (fun _ => rfl) (by decide) (by decide) (by decide) (Nat.le_of_ble_eq_true rfl) (Nat.le_of_ble_eq_true rfl) (fun q2 => ?_)
  refine a_eq (ws1 := (a, .inr (7, [.ref q1, .null, .null, .int 0, .int 0])) :: (([] ++ [(q1, .inl (gCy G 0, 9512, .inl (fun _ => 0)))]) ++ [(q2, .inl (gCy G 0, 8, .inl (fun _ => 0)))])) rfl ?_
  refine a_putF dX7_init_18 fl_X7_15 rfl rfl pf_7_1 rfl rfl (Nat.le_of_ble_eq_true rfl) (fs1 := [.ref q1, .ref q2, .null, .int 0, .int 0]) rfl ?_
  refine a_aload_n dX7_init_21 rfl rfl ?_
  refine a_bipush (v := 8) dX7_init_22 (by decide) ?_
  refine a_newa (t := 0) (N := 8) (f0 := .inl (fun _ => 0)) dX7_init_24 ac_int rfl (fun _ _ => rfl) rfl (fun _ => rfl) (by decide) (by decide) (by decide) (Nat.le_of_ble_eq_true rfl) (Nat.le_of_ble_eq_true rfl) (fun q3 => ?_)
  refine a_eq (ws1 := (a, .inr (7, [.ref q1, .ref q2, .null, .int 0, .int 0])) :: ((([] ++ [(q1, .inl (gCy G 0, 9512, .inl (fun _ => 0)))]) ++ [(q2, .inl (gCy G 0, 8, .inl (fun _ => 0)))]) ++ [(q3, .inl (gCy G 0, 8, .inl (fun _ => 0)))])) rfl ?_
  refine a_putF dX7_init_26 fl_X7_18 rfl rfl pf_7_2 rfl rfl (Nat.le_of_ble_eq_true rfl) (fs1 := [.ref q1, .ref q2, .ref q3, .int 0, .int 0]) rfl ?_
  refine a_aload_n dX7_init_29 rfl rfl ?_
  refine a_iconst (v := 0) dX7_init_30 (by decide) ?_
  refine a_put dX7_init_31 fl_X7_21 rfl pf_7_3 rfl rfl (Nat.le_of_ble_eq_true rfl) (fs1 := [.ref q1, .ref q2, .ref q3, .int 0, .int 0]) rfl ?_
  refine a_aload_n dX7_init_34 rfl rfl ?_
  refine a_iconst (v := 1) dX7_init_35 (by decide) ?_
  refine a_put dX7_init_36 fl_X7_25 rfl pf_7_4 rfl rfl (Nat.le_of_ble_eq_true rfl) (fs1 := [.ref q1, .ref q2, .ref q3, .int 0, .int 1]) rfl ?_
  exact a_ret (q1, q2, q3) dX7_init_39 (List.Perm.refl _) (Nat.le_of_ble_eq_true rfl) (Nat.le_of_ble_eq_true rfl)
theorem dX4_init_0 : decode cX4_init 0 = .ok (.aload_n 0, 1) := by decide +kernel
theorem dX4_init_1 : decode cX4_init 1 = .ok (.invokespecial 3, 3) := by decide +kernel
theorem dX4_init_4 : decode cX4_init 4 = .ok (.aload_n 0, 1) := by decide +kernel
theorem dX4_init_5 : decode cX4_init 5 = .ok (.bipush 10, 2) := by decide +kernel
theorem dX4_init_7 : decode cX4_init 7 = .ok (.anewarray 9, 3) := by decide +kernel
theorem dX4_init_10 : decode cX4_init 10 = .ok (.putfield 11, 3) := by decide +kernel
theorem dX4_init_13 : decode cX4_init 13 = .ok (.aload_n 0, 1) := by decide +kernel
theorem dX4_init_14 : decode cX4_init 14 = .ok (.iconst 0, 1) := by decide +kernel
theorem dX4_init_15 : decode cX4_init 15 = .ok (.putfield 17, 3) := by decide +kernel
theorem dX4_init_18 : decode cX4_init 18 = .ok (.aload_n 0, 1) := by decide +kernel
theorem dX4_init_19 : decode cX4_init 19 = .ok (.iconst 0, 1) := by decide +kernel
theorem dX4_init_20 : decode cX4_init 20 = .ok (.putfield 21, 3) := by decide +kernel
theorem dX4_init_23 : decode cX4_init 23 = .ok (.iconst 0, 1) := by decide +kernel
theorem dX4_init_24 : decode cX4_init 24 = .ok (.istore_n 1, 1) := by decide +kernel
theorem dX4_init_25 : decode cX4_init 25 = .ok (.iload_n 1, 1) := by decide +kernel
theorem dX4_init_26 : decode cX4_init 26 = .ok (.aload_n 0, 1) := by decide +kernel
theorem dX4_init_27 : decode cX4_init 27 = .ok (.getfield 11, 3) := by decide +kernel
theorem dX4_init_30 : decode cX4_init 30 = .ok (.arraylength, 1) := by decide +kernel
theorem dX4_init_31 : decode cX4_init 31 = .ok (.if_icmp .ge 22, 3) := by decide +kernel
theorem dX4_init_34 : decode cX4_init 34 = .ok (.aload_n 0, 1) := by decide +kernel
theorem dX4_init_35 : decode cX4_init 35 = .ok (.getfield 11, 3) := by decide +kernel
theorem dX4_init_38 : decode cX4_init 38 = .ok (.iload_n 1, 1) := by decide +kernel
theorem dX4_init_39 : decode cX4_init 39 = .ok (.new 9, 3) := by decide +kernel
theorem dX4_init_42 : decode cX4_init 42 = .ok (.dup, 1) := by decide +kernel
theorem dX4_init_43 : decode cX4_init 43 = .ok (.invokespecial 24, 3) := by decide +kernel
theorem dX4_init_46 : decode cX4_init 46 = .ok (.aastore, 1) := by decide +kernel
theorem dX4_init_47 : decode cX4_init 47 = .ok (.iinc 1 1, 3) := by decide +kernel
theorem dX4_init_50 : decode cX4_init 50 = .ok (.goto (-25), 3) := by decide +kernel
theorem dX4_init_53 : decode cX4_init 53 = .ok (.return_, 1) := by decide +kernel
theorem ml_X4_3 : Cond.methodLink RX4 3 objectInit ∈ Wd := mW 224 (by decide +kernel) rfl
theorem cl_X4_9 : Cond.classLink RX4 9 RX6 ∈ Wd := mW 225 (by decide +kernel) rfl
theorem pf_4_0 : parseFieldDescriptor (uD 4 0) = some (.array (.object "MeanRoads$Stand")) := by decide +kernel
theorem ib_6 : Cond.instantiable RX6 5 ∈ Wd := mW 189 (by decide +kernel) rfl
theorem in_6 : Cond.initialized RX6 ∈ Wd := mW 6 (by decide +kernel) rfl
theorem mi_6 : Mok yX6_init cX6_init 1 none 0 := ⟨mW 6 (by decide +kernel) rfl, mW 192 (by decide +kernel) rfl, ⟨by decide, by decide, by decide +kernel⟩, by decide⟩
theorem ii_6 : Cond.instanceMethod yX6_init ∈ Wd := mW 191 (by decide +kernel) rfl
theorem ml_X4_24 : Cond.methodLink RX4 24 yX6_init ∈ Wd := mW 227 (by decide +kernel) rfl
abbrev S4 : Type := Nat × (Nat × S6) × (Nat × S6) × (Nat × S6) × (Nat × S6) × (Nat × S6) × (Nat × S6) × (Nat × S6) × (Nat × S6) × (Nat × S6) × (Nat × S6)
def Wc4 (G : Gx) (a : Nat) (u : S4) : va_W := (a, .inr (4, [.ref (u.1), .int 0, .int 0])) :: ((u.1), .inl (gCy G 5, 10, .inr (.inr (.inr (.inr (va_up (va_up (va_up (va_up (va_up (va_up (va_up (va_up (va_up (va_up (fun _ => none) 0 (some (u.2.1.1))) 1 (some (u.2.2.1.1))) 2 (some (u.2.2.2.1.1))) 3 (some (u.2.2.2.2.1.1))) 4 (some (u.2.2.2.2.2.1.1))) 5 (some (u.2.2.2.2.2.2.1.1))) 6 (some (u.2.2.2.2.2.2.2.1.1))) 7 (some (u.2.2.2.2.2.2.2.2.1.1))) 8 (some (u.2.2.2.2.2.2.2.2.2.1.1))) 9 (some (u.2.2.2.2.2.2.2.2.2.2.1)))))))) :: (((((((((([] ++ Wc6 G (u.2.1.1) (u.2.1.2)) ++ Wc6 G (u.2.2.1.1) (u.2.2.1.2)) ++ Wc6 G (u.2.2.2.1.1) (u.2.2.2.1.2)) ++ Wc6 G (u.2.2.2.2.1.1) (u.2.2.2.2.1.2)) ++ Wc6 G (u.2.2.2.2.2.1.1) (u.2.2.2.2.2.1.2)) ++ Wc6 G (u.2.2.2.2.2.2.1.1) (u.2.2.2.2.2.2.1.2)) ++ Wc6 G (u.2.2.2.2.2.2.2.1.1) (u.2.2.2.2.2.2.2.1.2)) ++ Wc6 G (u.2.2.2.2.2.2.2.2.1.1) (u.2.2.2.2.2.2.2.2.1.2)) ++ Wc6 G (u.2.2.2.2.2.2.2.2.2.1.1) (u.2.2.2.2.2.2.2.2.2.1.2)) ++ Wc6 G (u.2.2.2.2.2.2.2.2.2.2.1) (u.2.2.2.2.2.2.2.2.2.2.2))
set_option maxHeartbeats 4000000 in
set_option maxRecDepth 20000 in
theorem c_ini_4 (G : Gx) : CtA yX4_init cX4_init 2 3 21 140 G 4 [.null, .int 0, .int 0] (Wc4 G) := by
  refine cta_go (own := RX4) (by decide) rfl rfl (by decide) (fun a sz => ?_)
  refine a_aload_n dX4_init_0 rfl rfl ?_
  refine a_obj dX4_init_1 ml_X4_3 (by decide) (by decide) ?_
  refine a_aload_n dX4_init_4 rfl rfl ?_
  refine a_bipush (v := 10) dX4_init_5 (by decide) ?_
  refine a_newq (t := 5) (N := 10) dX4_init_7 cl_X4_9 (fun _ K => K.2.2.2.1) rfl (by decide) (by decide) (by decide) (Nat.le_of_ble_eq_true rfl) (Nat.le_of_ble_eq_true rfl) (fun q1 => ?_)
  refine a_perm (ws1 := (a, .inr (4, [.null, .int 0, .int 0])) :: (q1, .inl (gCy G 5, 10, .inr (.inr (.inr (.inr (fun _ => none)))))) :: []) (pm1 _ _ _) ?_
  refine a_putF dX4_init_10 fl_X4_11 rfl rfl pf_4_0 rfl rfl (Nat.le_of_ble_eq_true rfl) (fs1 := [.ref q1, .int 0, .int 0]) rfl ?_
  refine a_aload_n dX4_init_13 rfl rfl ?_
  refine a_iconst (v := 0) dX4_init_14 (by decide) ?_
  refine a_put dX4_init_15 fl_X4_17 rfl pf_4_1 rfl rfl (Nat.le_of_ble_eq_true rfl) (fs1 := [.ref q1, .int 0, .int 0]) rfl ?_
  refine a_aload_n dX4_init_18 rfl rfl ?_
  refine a_iconst (v := 0) dX4_init_19 (by decide) ?_
  refine a_put dX4_init_20 fl_X4_21 rfl pf_4_2 rfl rfl (Nat.le_of_ble_eq_true rfl) (fs1 := [.ref q1, .int 0, .int 0]) rfl ?_
  refine a_iconst (v := 0) dX4_init_23 (by decide) ?_
  refine a_istore_n dX4_init_24 rfl (by decide) (lv1 := [(0, .ref a), (1, .int 0)]) rfl ?_
  refine a_iload_n dX4_init_25 rfl rfl ?_
  refine a_aload_n dX4_init_26 rfl rfl ?_
  refine a_get dX4_init_27 fl_X4_11 (v := .ref q1) rfl ?_
  refine a_alen (R := []) (t := 5) (v := 10) 1 dX4_init_30 rfl rfl (by decide) ?_
  refine a_icmp_ge 53 dX4_init_31 rfl (fun hc => absurd hc (by decide)) (fun _ => ?_)
  refine a_aload_n dX4_init_34 rfl rfl ?_
  refine a_get dX4_init_35 fl_X4_11 (v := .ref q1) rfl ?_
  refine a_iload_n dX4_init_38 rfl rfl ?_
  refine a_newc (ci := 6) (fs := [.int 0, .long 0, .int 0, .int 0, .null]) (r := (RX6, TX6, 5)) dX4_init_39 dX4_init_42 dX4_init_43 rfl cl_X4_9 ib_6 in_6 (by intro j hj; have hj : j < 5 := hj; match j, hj with | 0, _ => rfl | 1, _ => rfl | 2, _ => rfl | 3, _ => rfl | 4, _ => rfl | j + 5, hj => exact absurd hj (by omega)) mi_6 rfl ii_6 (Or.inl ml_X4_24) (c_ini_6 G) (Nat.le_of_ble_eq_true rfl) (Nat.le_of_ble_eq_true rfl) (Nat.le_of_ble_eq_true rfl) (Nat.le_of_ble_eq_true rfl) (fun q2 u3 => ?_)
  refine a_eq (ws1 := (a, .inr (4, [.ref q1, .int 0, .int 0])) :: (q1, .inl (gCy G 5, 10, .inr (.inr (.inr (.inr (fun _ => none)))))) :: ([] ++ Wc6 G q2 u3)) rfl ?_
  refine a_aast (ci := 6) (r := (RX6, TX6, 5)) (q0 := 1) dX4_init_46 rfl rfl rfl (List.mem_cons_of_mem _ (List.mem_cons_of_mem _ (List.mem_append_right _ List.mem_cons_self))) (by unfold vp_in; decide) (ws1 := (a, .inr (4, [.ref q1, .int 0, .int 0])) :: (q1, .inl (gCy G 5, 10, .inr (.inr (.inr (.inr (va_up (fun _ => none) 0 (some q2))))))) :: ([] ++ Wc6 G q2 u3)) rfl ?_
  refine a_iinc dX4_init_47 rfl (v := 1) (by decide) (by decide) (lv1 := [(0, .ref a), (1, .int 1)]) rfl ?_
  refine a_goto 25 dX4_init_50 rfl ?_
  refine a_iload_n dX4_init_25 rfl rfl ?_
  refine a_aload_n dX4_init_26 rfl rfl ?_
  refine a_get dX4_init_27 fl_X4_11 (v := .ref q1) rfl ?_
  refine a_alen (R := []) (t := 5) (v := 10) 1 dX4_init_30 rfl rfl (by decide) ?_
  refine a_icmp_ge 53 dX4_init_31 rfl (fun hc => absurd hc (by decide)) (fun _ => ?_)
  refine a_aload_n dX4_init_34 rfl rfl ?_
  refine a_get dX4_init_35 fl_X4_11 (v := .ref q1) rfl ?_
  refine a_iload_n dX4_init_38 rfl rfl ?_
  refine a_newc (ci := 6) (fs := [.int 0, .long 0, .int 0, .int 0, .null]) (r := (RX6, TX6, 5)) dX4_init_39 dX4_init_42 dX4_init_43 rfl cl_X4_9 ib_6 in_6 (by intro j hj; have hj : j < 5 := hj; match j, hj with | 0, _ => rfl | 1, _ => rfl | 2, _ => rfl | 3, _ => rfl | 4, _ => rfl | j + 5, hj => exact absurd hj (by omega)) mi_6 rfl ii_6 (Or.inl ml_X4_24) (c_ini_6 G) (Nat.le_of_ble_eq_true rfl) (Nat.le_of_ble_eq_true rfl) (Nat.le_of_ble_eq_true rfl) (Nat.le_of_ble_eq_true rfl) (fun q4 u5 => ?_)
  refine a_eq (ws1 := (a, .inr (4, [.ref q1, .int 0, .int 0])) :: (q1, .inl (gCy G 5, 10, .inr (.inr (.inr (.inr (va_up (fun _ => none) 0 (some q2))))))) :: (([] ++ Wc6 G q2 u3) ++ Wc6 G q4 u5)) rfl ?_
  refine a_aast (ci := 6) (r := (RX6, TX6, 5)) (q0 := 1) dX4_init_46 rfl rfl rfl (List.mem_cons_of_mem _ (List.mem_cons_of_mem _ (List.mem_append_right _ List.mem_cons_self))) (by unfold vp_in; decide) (ws1 := (a, .inr (4, [.ref q1, .int 0, .int 0])) :: (q1, .inl (gCy G 5, 10, .inr (.inr (.inr (.inr (va_up (va_up (fun _ => none) 0 (some q2)) 1 (some q4))))))) :: (([] ++ Wc6 G q2 u3) ++ Wc6 G q4 u5)) rfl ?_
  refine a_iinc dX4_init_47 rfl (v := 2) (by decide) (by decide) (lv1 := [(0, .ref a), (1, .int 2)]) rfl ?_
  refine a_goto 25 dX4_init_50 rfl ?_
  refine a_iload_n dX4_init_25 rfl rfl ?_
  refine a_aload_n dX4_init_26 rfl rfl ?_
  refine a_get dX4_init_27 fl_X4_11 (v := .ref q1) rfl ?_
  refine a_alen (R := []) (t := 5) (v := 10) 1 dX4_init_30 rfl rfl (by decide) ?_
  refine a_icmp_ge 53 dX4_init_31 rfl (fun hc => absurd hc (by decide)) (fun _ => ?_)
  refine a_aload_n dX4_init_34 rfl rfl ?_
  refine a_get dX4_init_35 fl_X4_11 (v := .ref q1) rfl ?_
  refine a_iload_n dX4_init_38 rfl rfl ?_
  refine a_newc (ci := 6) (fs := [.int 0, .long 0, .int 0, .int 0, .null]) (r := (RX6, TX6, 5)) dX4_init_39 dX4_init_42 dX4_init_43 rfl cl_X4_9 ib_6 in_6 (by intro j hj; have hj : j < 5 := hj; match j, hj with | 0, _ => rfl | 1, _ => rfl | 2, _ => rfl | 3, _ => rfl | 4, _ => rfl | j + 5, hj => exact absurd hj (by omega)) mi_6 rfl ii_6 (Or.inl ml_X4_24) (c_ini_6 G) (Nat.le_of_ble_eq_true rfl) (Nat.le_of_ble_eq_true rfl) (Nat.le_of_ble_eq_true rfl) (Nat.le_of_ble_eq_true rfl) (fun q6 u7 => ?_)
  refine a_eq (ws1 := (a, .inr (4, [.ref q1, .int 0, .int 0])) :: (q1, .inl (gCy G 5, 10, .inr (.inr (.inr (.inr (va_up (va_up (fun _ => none) 0 (some q2)) 1 (some q4))))))) :: ((([] ++ Wc6 G q2 u3) ++ Wc6 G q4 u5) ++ Wc6 G q6 u7)) rfl ?_
  refine a_aast (ci := 6) (r := (RX6, TX6, 5)) (q0 := 1) dX4_init_46 rfl rfl rfl (List.mem_cons_of_mem _ (List.mem_cons_of_mem _ (List.mem_append_right _ List.mem_cons_self))) (by unfold vp_in; decide) (ws1 := (a, .inr (4, [.ref q1, .int 0, .int 0])) :: (q1, .inl (gCy G 5, 10, .inr (.inr (.inr (.inr (va_up (va_up (va_up (fun _ => none) 0 (some q2)) 1 (some q4)) 2 (some q6))))))) :: ((([] ++ Wc6 G q2 u3) ++ Wc6 G q4 u5) ++ Wc6 G q6 u7)) rfl ?_
  refine a_iinc dX4_init_47 rfl (v := 3) (by decide) (by decide) (lv1 := [(0, .ref a), (1, .int 3)]) rfl ?_
  refine a_goto 25 dX4_init_50 rfl ?_
  refine a_iload_n dX4_init_25 rfl rfl ?_
  refine a_aload_n dX4_init_26 rfl rfl ?_
  refine a_get dX4_init_27 fl_X4_11 (v := .ref q1) rfl ?_
  refine a_alen (R := []) (t := 5) (v := 10) 1 dX4_init_30 rfl rfl (by decide) ?_
  refine a_icmp_ge 53 dX4_init_31 rfl (fun hc => absurd hc (by decide)) (fun _ => ?_)
  refine a_aload_n dX4_init_34 rfl rfl ?_
  refine a_get dX4_init_35 fl_X4_11 (v := .ref q1) rfl ?_
  refine a_iload_n dX4_init_38 rfl rfl ?_
  refine a_newc (ci := 6) (fs := [.int 0, .long 0, .int 0, .int 0, .null]) (r := (RX6, TX6, 5)) dX4_init_39 dX4_init_42 dX4_init_43 rfl cl_X4_9 ib_6 in_6 (by intro j hj; have hj : j < 5 := hj; match j, hj with | 0, _ => rfl | 1, _ => rfl | 2, _ => rfl | 3, _ => rfl | 4, _ => rfl | j + 5, hj => exact absurd hj (by omega)) mi_6 rfl ii_6 (Or.inl ml_X4_24) (c_ini_6 G) (Nat.le_of_ble_eq_true rfl) (Nat.le_of_ble_eq_true rfl) (Nat.le_of_ble_eq_true rfl) (Nat.le_of_ble_eq_true rfl) (fun q8 u9 => ?_)
  refine a_eq (ws1 := (a, .inr (4, [.ref q1, .int 0, .int 0])) :: (q1, .inl (gCy G 5, 10, .inr (.inr (.inr (.inr (va_up (va_up (va_up (fun _ => none) 0 (some q2)) 1 (some q4)) 2 (some q6))))))) :: (((([] ++ Wc6 G q2 u3) ++ Wc6 G q4 u5) ++ Wc6 G q6 u7) ++ Wc6 G q8 u9)) rfl ?_
  refine a_aast (ci := 6) (r := (RX6, TX6, 5)) (q0 := 1) dX4_init_46 rfl rfl rfl (List.mem_cons_of_mem _ (List.mem_cons_of_mem _ (List.mem_append_right _ List.mem_cons_self))) (by unfold vp_in; decide) (ws1 := (a, .inr (4, [.ref q1, .int 0, .int 0])) :: (q1, .inl (gCy G 5, 10, .inr (.inr (.inr (.inr (va_up (va_up (va_up (va_up (fun _ => none) 0 (some q2)) 1 (some q4)) 2 (some q6)) 3 (some q8))))))) :: (((([] ++ Wc6 G q2 u3) ++ Wc6 G q4 u5) ++ Wc6 G q6 u7) ++ Wc6 G q8 u9)) rfl ?_
  refine a_iinc dX4_init_47 rfl (v := 4) (by decide) (by decide) (lv1 := [(0, .ref a), (1, .int 4)]) rfl ?_
  refine a_goto 25 dX4_init_50 rfl ?_
  refine a_iload_n dX4_init_25 rfl rfl ?_
  refine a_aload_n dX4_init_26 rfl rfl ?_
  refine a_get dX4_init_27 fl_X4_11 (v := .ref q1) rfl ?_
  refine a_alen (R := []) (t := 5) (v := 10) 1 dX4_init_30 rfl rfl (by decide) ?_
  refine a_icmp_ge 53 dX4_init_31 rfl (fun hc => absurd hc (by decide)) (fun _ => ?_)
  refine a_aload_n dX4_init_34 rfl rfl ?_
  refine a_get dX4_init_35 fl_X4_11 (v := .ref q1) rfl ?_
  refine a_iload_n dX4_init_38 rfl rfl ?_
  refine a_newc (ci := 6) (fs := [.int 0, .long 0, .int 0, .int 0, .null]) (r := (RX6, TX6, 5)) dX4_init_39 dX4_init_42 dX4_init_43 rfl cl_X4_9 ib_6 in_6 (by intro j hj; have hj : j < 5 := hj; match j, hj with | 0, _ => rfl | 1, _ => rfl | 2, _ => rfl | 3, _ => rfl | 4, _ => rfl | j + 5, hj => exact absurd hj (by omega)) mi_6 rfl ii_6 (Or.inl ml_X4_24) (c_ini_6 G) (Nat.le_of_ble_eq_true rfl) (Nat.le_of_ble_eq_true rfl) (Nat.le_of_ble_eq_true rfl) (Nat.le_of_ble_eq_true rfl) (fun q10 u11 => ?_)
  refine a_eq (ws1 := (a, .inr (4, [.ref q1, .int 0, .int 0])) :: (q1, .inl (gCy G 5, 10, .inr (.inr (.inr (.inr (va_up (va_up (va_up (va_up (fun _ => none) 0 (some q2)) 1 (some q4)) 2 (some q6)) 3 (some q8))))))) :: ((((([] ++ Wc6 G q2 u3) ++ Wc6 G q4 u5) ++ Wc6 G q6 u7) ++ Wc6 G q8 u9) ++ Wc6 G q10 u11)) rfl ?_
  refine a_aast (ci := 6) (r := (RX6, TX6, 5)) (q0 := 1) dX4_init_46 rfl rfl rfl (List.mem_cons_of_mem _ (List.mem_cons_of_mem _ (List.mem_append_right _ List.mem_cons_self))) (by unfold vp_in; decide) (ws1 := (a, .inr (4, [.ref q1, .int 0, .int 0])) :: (q1, .inl (gCy G 5, 10, .inr (.inr (.inr (.inr (va_up (va_up (va_up (va_up (va_up (fun _ => none) 0 (some q2)) 1 (some q4)) 2 (some q6)) 3 (some q8)) 4 (some q10))))))) :: ((((([] ++ Wc6 G q2 u3) ++ Wc6 G q4 u5) ++ Wc6 G q6 u7) ++ Wc6 G q8 u9) ++ Wc6 G q10 u11)) rfl ?_
  refine a_iinc dX4_init_47 rfl (v := 5) (by decide) (by decide) (lv1 := [(0, .ref a), (1, .int 5)]) rfl ?_
  refine a_goto 25 dX4_init_50 rfl ?_
  refine a_iload_n dX4_init_25 rfl rfl ?_
  refine a_aload_n dX4_init_26 rfl rfl ?_
  refine a_get dX4_init_27 fl_X4_11 (v := .ref q1) rfl ?_
  refine a_alen (R := []) (t := 5) (v := 10) 1 dX4_init_30 rfl rfl (by decide) ?_
  refine a_icmp_ge 53 dX4_init_31 rfl (fun hc => absurd hc (by decide)) (fun _ => ?_)
  refine a_aload_n dX4_init_34 rfl rfl ?_
  refine a_get dX4_init_35 fl_X4_11 (v := .ref q1) rfl ?_
  refine a_iload_n dX4_init_38 rfl rfl ?_
  refine a_newc (ci := 6) (fs := [.int 0, .long 0, .int 0, .int 0, .null]) (r := (RX6, TX6, 5)) dX4_init_39 dX4_init_42 dX4_init_43 rfl cl_X4_9 ib_6 in_6 (by intro j hj; have hj : j < 5 := hj; match j, hj with | 0, _ => rfl | 1, _ => rfl | 2, _ => rfl | 3, _ => rfl | 4, _ => rfl | j + 5, hj => exact absurd hj (by omega)) mi_6 rfl ii_6 (Or.inl ml_X4_24) (c_ini_6 G) (Nat.le_of_ble_eq_true rfl) (Nat.le_of_ble_eq_true rfl) (Nat.le_of_ble_eq_true rfl) (Nat.le_of_ble_eq_true rfl) (fun q12 u13 => ?_)
  refine a_eq (ws1 := (a, .inr (4, [.ref q1, .int 0, .int 0])) :: (q1, .inl (gCy G 5, 10, .inr (.inr (.inr (.inr (va_up (va_up (va_up (va_up (va_up (fun _ => none) 0 (some q2)) 1 (some q4)) 2 (some q6)) 3 (some q8)) 4 (some q10))))))) :: (((((([] ++ Wc6 G q2 u3) ++ Wc6 G q4 u5) ++ Wc6 G q6 u7) ++ Wc6 G q8 u9) ++ Wc6 G q10 u11) ++ Wc6 G q12 u13)) rfl ?_
  refine a_aast (ci := 6) (r := (RX6, TX6, 5)) (q0 := 1) dX4_init_46 rfl rfl rfl (List.mem_cons_of_mem _ (List.mem_cons_of_mem _ (List.mem_append_right _ List.mem_cons_self))) (by unfold vp_in; decide) (ws1 := (a, .inr (4, [.ref q1, .int 0, .int 0])) :: (q1, .inl (gCy G 5, 10, .inr (.inr (.inr (.inr (va_up (va_up (va_up (va_up (va_up (va_up (fun _ => none) 0 (some q2)) 1 (some q4)) 2 (some q6)) 3 (some q8)) 4 (some q10)) 5 (some q12))))))) :: (((((([] ++ Wc6 G q2 u3) ++ Wc6 G q4 u5) ++ Wc6 G q6 u7) ++ Wc6 G q8 u9) ++ Wc6 G q10 u11) ++ Wc6 G q12 u13)) rfl ?_
  refine a_iinc dX4_init_47 rfl (v := 6) (by decide) (by decide) (lv1 := [(0, .ref a), (1, .int 6)]) rfl ?_
  refine a_goto 25 dX4_init_50 rfl ?_
  refine a_iload_n dX4_init_25 rfl rfl ?_
  refine a_aload_n dX4_init_26 rfl rfl ?_
  refine a_get dX4_init_27 fl_X4_11 (v := .ref q1) rfl ?_
  refine a_alen (R := []) (t := 5) (v := 10) 1 dX4_init_30 rfl rfl (by decide) ?_
  refine a_icmp_ge 53 dX4_init_31 rfl (fun hc => absurd hc (by decide)) (fun _ => ?_)
  refine a_aload_n dX4_init_34 rfl rfl ?_
  refine a_get dX4_init_35 fl_X4_11 (v := .ref q1) rfl ?_
  refine a_iload_n dX4_init_38 rfl rfl ?_
  refine a_newc (ci := 6) (fs := [.int 0, .long 0, .int 0, .int 0, .null]) (r := (RX6, TX6, 5)) dX4_init_39 dX4_init_42 dX4_init_43 rfl cl_X4_9 ib_6 in_6 (by intro j hj; have hj : j < 5 := hj; match j, hj with | 0, _ => rfl | 1, _ => rfl | 2, _ => rfl | 3, _ => rfl | 4, _ => rfl | j + 5, hj => exact absurd hj (by omega)) mi_6 rfl ii_6 (Or.inl ml_X4_24) (c_ini_6 G) (Nat.le_of_ble_eq_true rfl) (Nat.le_of_ble_eq_true rfl) (Nat.le_of_ble_eq_true rfl) (Nat.le_of_ble_eq_true rfl) (fun q14 u15 => ?_)
  refine a_eq (ws1 := (a, .inr (4, [.ref q1, .int 0, .int 0])) :: (q1, .inl (gCy G 5, 10, .inr (.inr (.inr (.inr (va_up (va_up (va_up (va_up (va_up (va_up (fun _ => none) 0 (some q2)) 1 (some q4)) 2 (some q6)) 3 (some q8)) 4 (some q10)) 5 (some q12))))))) :: ((((((([] ++ Wc6 G q2 u3) ++ Wc6 G q4 u5) ++ Wc6 G q6 u7) ++ Wc6 G q8 u9) ++ Wc6 G q10 u11) ++ Wc6 G q12 u13) ++ Wc6 G q14 u15)) rfl ?_
  refine a_aast (ci := 6) (r := (RX6, TX6, 5)) (q0 := 1) dX4_init_46 rfl rfl rfl (List.mem_cons_of_mem _ (List.mem_cons_of_mem _ (List.mem_append_right _ List.mem_cons_self))) (by unfold vp_in; decide) (ws1 := (a, .inr (4, [.ref q1, .int 0, .int 0])) :: (q1, .inl (gCy G 5, 10, .inr (.inr (.inr (.inr (va_up (va_up (va_up (va_up (va_up (va_up (va_up (fun _ => none) 0 (some q2)) 1 (some q4)) 2 (some q6)) 3 (some q8)) 4 (some q10)) 5 (some q12)) 6 (some q14))))))) :: ((((((([] ++ Wc6 G q2 u3) ++ Wc6 G q4 u5) ++ Wc6 G q6 u7) ++ Wc6 G q8 u9) ++ Wc6 G q10 u11) ++ Wc6 G q12 u13) ++ Wc6 G q14 u15)) rfl ?_
  refine a_iinc dX4_init_47 rfl (v := 7) (by decide) (by decide) (lv1 := [(0, .ref a), (1, .int 7)]) rfl ?_
  refine a_goto 25 dX4_init_50 rfl ?_
  refine a_iload_n dX4_init_25 rfl rfl ?_
  refine a_aload_n dX4_init_26 rfl rfl ?_
  refine a_get dX4_init_27 fl_X4_11 (v := .ref q1) rfl ?_
  refine a_alen (R := []) (t := 5) (v := 10) 1 dX4_init_30 rfl rfl (by decide) ?_
  refine a_icmp_ge 53 dX4_init_31 rfl (fun hc => absurd hc (by decide)) (fun _ => ?_)
  refine a_aload_n dX4_init_34 rfl rfl ?_
  refine a_get dX4_init_35 fl_X4_11 (v := .ref q1) rfl ?_
  refine a_iload_n dX4_init_38 rfl rfl ?_
  refine a_newc (ci := 6) (fs := [.int 0, .long 0, .int 0, .int 0, .null]) (r := (RX6, TX6, 5)) dX4_init_39 dX4_init_42 dX4_init_43 rfl cl_X4_9 ib_6 in_6 (by intro j hj; have hj : j < 5 := hj; match j, hj with | 0, _ => rfl | 1, _ => rfl | 2, _ => rfl | 3, _ => rfl | 4, _ => rfl | j + 5, hj => exact absurd hj (by omega)) mi_6 rfl ii_6 (Or.inl ml_X4_24) (c_ini_6 G) (Nat.le_of_ble_eq_true rfl) (Nat.le_of_ble_eq_true rfl) (Nat.le_of_ble_eq_true rfl) (Nat.le_of_ble_eq_true rfl) (fun q16 u17 => ?_)
  refine a_eq (ws1 := (a, .inr (4, [.ref q1, .int 0, .int 0])) :: (q1, .inl (gCy G 5, 10, .inr (.inr (.inr (.inr (va_up (va_up (va_up (va_up (va_up (va_up (va_up (fun _ => none) 0 (some q2)) 1 (some q4)) 2 (some q6)) 3 (some q8)) 4 (some q10)) 5 (some q12)) 6 (some q14))))))) :: (((((((([] ++ Wc6 G q2 u3) ++ Wc6 G q4 u5) ++ Wc6 G q6 u7) ++ Wc6 G q8 u9) ++ Wc6 G q10 u11) ++ Wc6 G q12 u13) ++ Wc6 G q14 u15) ++ Wc6 G q16 u17)) rfl ?_
  refine a_aast (ci := 6) (r := (RX6, TX6, 5)) (q0 := 1) dX4_init_46 rfl rfl rfl (List.mem_cons_of_mem _ (List.mem_cons_of_mem _ (List.mem_append_right _ List.mem_cons_self))) (by unfold vp_in; decide) (ws1 := (a, .inr (4, [.ref q1, .int 0, .int 0])) :: (q1, .inl (gCy G 5, 10, .inr (.inr (.inr (.inr (va_up (va_up (va_up (va_up (va_up (va_up (va_up (va_up (fun _ => none) 0 (some q2)) 1 (some q4)) 2 (some q6)) 3 (some q8)) 4 (some q10)) 5 (some q12)) 6 (some q14)) 7 (some q16))))))) :: (((((((([] ++ Wc6 G q2 u3) ++ Wc6 G q4 u5) ++ Wc6 G q6 u7) ++ Wc6 G q8 u9) ++ Wc6 G q10 u11) ++ Wc6 G q12 u13) ++ Wc6 G q14 u15) ++ Wc6 G q16 u17)) rfl ?_
  refine a_iinc dX4_init_47 rfl (v := 8) (by decide) (by decide) (lv1 := [(0, .ref a), (1, .int 8)]) rfl ?_
  refine a_goto 25 dX4_init_50 rfl ?_
  refine a_iload_n dX4_init_25 rfl rfl ?_
  refine a_aload_n dX4_init_26 rfl rfl ?_
  refine a_get dX4_init_27 fl_X4_11 (v := .ref q1) rfl ?_
  refine a_alen (R := []) (t := 5) (v := 10) 1 dX4_init_30 rfl rfl (by decide) ?_
  refine a_icmp_ge 53 dX4_init_31 rfl (fun hc => absurd hc (by decide)) (fun _ => ?_)
  refine a_aload_n dX4_init_34 rfl rfl ?_
  refine a_get dX4_init_35 fl_X4_11 (v := .ref q1) rfl ?_
  refine a_iload_n dX4_init_38 rfl rfl ?_
  refine a_newc (ci := 6) (fs := [.int 0, .long 0, .int 0, .int 0, .null]) (r := (RX6, TX6, 5)) dX4_init_39 dX4_init_42 dX4_init_43 rfl cl_X4_9 ib_6 in_6 (by intro j hj; have hj : j < 5 := hj; match j, hj with | 0, _ => rfl | 1, _ => rfl | 2, _ => rfl | 3, _ => rfl | 4, _ => rfl | j + 5, hj => exact absurd hj (by omega)) mi_6 rfl ii_6 (Or.inl ml_X4_24) (c_ini_6 G) (Nat.le_of_ble_eq_true rfl) (Nat.le_of_ble_eq_true rfl) (Nat.le_of_ble_eq_true rfl) (Nat.le_of_ble_eq_true rfl) (fun q18 u19 => ?_)
  refine a_eq (ws1 := (a, .inr (4, [.ref q1, .int 0, .int 0])) :: (q1, .inl (gCy G 5, 10, .inr (.inr (.inr (.inr (va_up (va_up (va_up (va_up (va_up (va_up (va_up (va_up (fun _ => none) 0 (some q2)) 1 (some q4)) 2 (some q6)) 3 (some q8)) 4 (some q10)) 5 (some q12)) 6 (some q14)) 7 (some q16))))))) :: ((((((((([] ++ Wc6 G q2 u3) ++ Wc6 G q4 u5) ++ Wc6 G q6 u7) ++ Wc6 G q8 u9) ++ Wc6 G q10 u11) ++ Wc6 G q12 u13) ++ Wc6 G q14 u15) ++ Wc6 G q16 u17) ++ Wc6 G q18 u19)) rfl ?_
  refine a_aast (ci := 6) (r := (RX6, TX6, 5)) (q0 := 1) dX4_init_46 rfl rfl rfl (List.mem_cons_of_mem _ (List.mem_cons_of_mem _ (List.mem_append_right _ List.mem_cons_self))) (by unfold vp_in; decide) (ws1 := (a, .inr (4, [.ref q1, .int 0, .int 0])) :: (q1, .inl (gCy G 5, 10, .inr (.inr (.inr (.inr (va_up (va_up (va_up (va_up (va_up (va_up (va_up (va_up (va_up (fun _ => none) 0 (some q2)) 1 (some q4)) 2 (some q6)) 3 (some q8)) 4 (some q10)) 5 (some q12)) 6 (some q14)) 7 (some q16)) 8 (some q18))))))) :: ((((((((([] ++ Wc6 G q2 u3) ++ Wc6 G q4 u5) ++ Wc6 G q6 u7) ++ Wc6 G q8 u9) ++ Wc6 G q10 u11) ++ Wc6 G q12 u13) ++ Wc6 G q14 u15) ++ Wc6 G q16 u17) ++ Wc6 G q18 u19)) rfl ?_
  refine a_iinc dX4_init_47 rfl (v := 9) (by decide) (by decide) (lv1 := [(0, .ref a), (1, .int 9)]) rfl ?_
  refine a_goto 25 dX4_init_50 rfl ?_
  refine a_iload_n dX4_init_25 rfl rfl ?_
  refine a_aload_n dX4_init_26 rfl rfl ?_
  refine a_get dX4_init_27 fl_X4_11 (v := .ref q1) rfl ?_
  refine a_alen (R := []) (t := 5) (v := 10) 1 dX4_init_30 rfl rfl (by decide) ?_
  refine a_icmp_ge 53 dX4_init_31 rfl (fun hc => absurd hc (by decide)) (fun _ => ?_)
  refine a_aload_n dX4_init_34 rfl rfl ?_
  refine a_get dX4_init_35 fl_X4_11 (v := .ref q1) rfl ?_
  refine a_iload_n dX4_init_38 rfl rfl ?_
  refine a_newc (ci := 6) (fs := [.int 0, .long 0, .int 0, .int 0, .null]) (r := (RX6, TX6, 5)) dX4_init_39 dX4_init_42 dX4_init_43 rfl cl_X4_9 ib_6 in_6 (by intro j hj; have hj : j < 5 := hj; match j, hj with | 0, _ => rfl | 1, _ => rfl | 2, _ => rfl | 3, _ => rfl | 4, _ => rfl | j + 5, hj => exact absurd hj (by omega)) mi_6 rfl ii_6 (Or.inl ml_X4_24) (c_ini_6 G) (Nat.le_of_ble_eq_true rfl) (Nat.le_of_ble_eq_true rfl) (Nat.le_of_ble_eq_true rfl) (Nat.le_of_ble_eq_true rfl) (fun q20 u21 => ?_)
  refine a_eq (ws1 := (a, .inr (4, [.ref q1, .int 0, .int 0])) :: (q1, .inl (gCy G 5, 10, .inr (.inr (.inr (.inr (va_up (va_up (va_up (va_up (va_up (va_up (va_up (va_up (va_up (fun _ => none) 0 (some q2)) 1 (some q4)) 2 (some q6)) 3 (some q8)) 4 (some q10)) 5 (some q12)) 6 (some q14)) 7 (some q16)) 8 (some q18))))))) :: (((((((((([] ++ Wc6 G q2 u3) ++ Wc6 G q4 u5) ++ Wc6 G q6 u7) ++ Wc6 G q8 u9) ++ Wc6 G q10 u11) ++ Wc6 G q12 u13) ++ Wc6 G q14 u15) ++ Wc6 G q16 u17) ++ Wc6 G q18 u19) ++ Wc6 G q20 u21)) rfl ?_
  refine a_aast (ci := 6) (r := (RX6, TX6, 5)) (q0 := 1) dX4_init_46 rfl rfl rfl (List.mem_cons_of_mem _ (List.mem_cons_of_mem _ (List.mem_append_right _ List.mem_cons_self))) (by unfold vp_in; decide) (ws1 := (a, .inr (4, [.ref q1, .int 0, .int 0])) :: (q1, .inl (gCy G 5, 10, .inr (.inr (.inr (.inr (va_up (va_up (va_up (va_up (va_up (va_up (va_up (va_up (va_up (va_up (fun _ => none) 0 (some q2)) 1 (some q4)) 2 (some q6)) 3 (some q8)) 4 (some q10)) 5 (some q12)) 6 (some q14)) 7 (some q16)) 8 (some q18)) 9 (some q20))))))) :: (((((((((([] ++ Wc6 G q2 u3) ++ Wc6 G q4 u5) ++ Wc6 G q6 u7) ++ Wc6 G q8 u9) ++ Wc6 G q10 u11) ++ Wc6 G q12 u13) ++ Wc6 G q14 u15) ++ Wc6 G q16 u17) ++ Wc6 G q18 u19) ++ Wc6 G q20 u21)) rfl ?_
  refine a_iinc dX4_init_47 rfl (v := 10) (by decide) (by decide) (lv1 := [(0, .ref a), (1, .int 10)]) rfl ?_
  refine a_goto 25 dX4_init_50 rfl ?_
  refine a_iload_n dX4_init_25 rfl rfl ?_
  refine a_aload_n dX4_init_26 rfl rfl ?_
  refine a_get dX4_init_27 fl_X4_11 (v := .ref q1) rfl ?_
  refine a_alen (R := []) (t := 5) (v := 10) 1 dX4_init_30 rfl rfl (by decide) ?_
  refine a_icmp_ge 53 dX4_init_31 rfl (fun _ => ?_) (fun hc => absurd (by decide) hc)
  exact a_ret (q1, (q2, u3), (q4, u5), (q6, u7), (q8, u9), (q10, u11), (q12, u13), (q14, u15), (q16, u17), (q18, u19), (q20, u21)) dX4_init_53 (List.Perm.refl _) (Nat.le_of_ble_eq_true rfl) (Nat.le_of_ble_eq_true rfl)
theorem dX5_init_0 : decode cX5_init 0 = .ok (.aload_n 0, 1) := by decide +kernel
theorem dX5_init_1 : decode cX5_init 1 = .ok (.invokespecial 3, 3) := by decide +kernel
theorem dX5_init_4 : decode cX5_init 4 = .ok (.aload_n 0, 1) := by decide +kernel
theorem dX5_init_5 : decode cX5_init 5 = .ok (.new 9, 3) := by decide +kernel
theorem dX5_init_8 : decode cX5_init 8 = .ok (.dup, 1) := by decide +kernel
theorem dX5_init_9 : decode cX5_init 9 = .ok (.invokespecial 11, 3) := by decide +kernel
theorem dX5_init_12 : decode cX5_init 12 = .ok (.putfield 12, 3) := by decide +kernel
theorem dX5_init_15 : decode cX5_init 15 = .ok (.aload_n 0, 1) := by decide +kernel
theorem dX5_init_16 : decode cX5_init 16 = .ok (.new 18, 3) := by decide +kernel
theorem dX5_init_19 : decode cX5_init 19 = .ok (.dup, 1) := by decide +kernel
theorem dX5_init_20 : decode cX5_init 20 = .ok (.invokespecial 20, 3) := by decide +kernel
theorem dX5_init_23 : decode cX5_init 23 = .ok (.putfield 21, 3) := by decide +kernel
theorem dX5_init_26 : decode cX5_init 26 = .ok (.aload_n 0, 1) := by decide +kernel
theorem dX5_init_27 : decode cX5_init 27 = .ok (.new 18, 3) := by decide +kernel
theorem dX5_init_30 : decode cX5_init 30 = .ok (.dup, 1) := by decide +kernel
theorem dX5_init_31 : decode cX5_init 31 = .ok (.invokespecial 20, 3) := by decide +kernel
theorem dX5_init_34 : decode cX5_init 34 = .ok (.putfield 25, 3) := by decide +kernel
theorem dX5_init_37 : decode cX5_init 37 = .ok (.aload_n 0, 1) := by decide +kernel
theorem dX5_init_38 : decode cX5_init 38 = .ok (.aload_n 0, 1) := by decide +kernel
theorem dX5_init_39 : decode cX5_init 39 = .ok (.getfield 21, 3) := by decide +kernel
theorem dX5_init_42 : decode cX5_init 42 = .ok (.putfield 28, 3) := by decide +kernel
theorem dX5_init_45 : decode cX5_init 45 = .ok (.aload_n 0, 1) := by decide +kernel
theorem dX5_init_46 : decode cX5_init 46 = .ok (.iconst 0, 1) := by decide +kernel
theorem dX5_init_47 : decode cX5_init 47 = .ok (.putfield 31, 3) := by decide +kernel
theorem dX5_init_50 : decode cX5_init 50 = .ok (.aload_n 0, 1) := by decide +kernel
theorem dX5_init_51 : decode cX5_init 51 = .ok (.iconst 0, 1) := by decide +kernel
theorem dX5_init_52 : decode cX5_init 52 = .ok (.putfield 35, 3) := by decide +kernel
theorem dX5_init_55 : decode cX5_init 55 = .ok (.aload_n 0, 1) := by decide +kernel
theorem dX5_init_56 : decode cX5_init 56 = .ok (.iconst 0, 1) := by decide +kernel
theorem dX5_init_57 : decode cX5_init 57 = .ok (.putfield 38, 3) := by decide +kernel
theorem dX5_init_60 : decode cX5_init 60 = .ok (.aload_n 0, 1) := by decide +kernel
theorem dX5_init_61 : decode cX5_init 61 = .ok (.iconst 0, 1) := by decide +kernel
theorem dX5_init_62 : decode cX5_init 62 = .ok (.putfield 41, 3) := by decide +kernel
theorem dX5_init_65 : decode cX5_init 65 = .ok (.aload_n 0, 1) := by decide +kernel
theorem dX5_init_66 : decode cX5_init 66 = .ok (.bipush 16, 2) := by decide +kernel
theorem dX5_init_68 : decode cX5_init 68 = .ok (.newarray .int, 2) := by decide +kernel
theorem dX5_init_70 : decode cX5_init 70 = .ok (.putfield 44, 3) := by decide +kernel
theorem dX5_init_73 : decode cX5_init 73 = .ok (.aload_n 0, 1) := by decide +kernel
theorem dX5_init_74 : decode cX5_init 74 = .ok (.bipush 16, 2) := by decide +kernel
theorem dX5_init_76 : decode cX5_init 76 = .ok (.newarray .int, 2) := by decide +kernel
theorem dX5_init_78 : decode cX5_init 78 = .ok (.putfield 48, 3) := by decide +kernel
theorem dX5_init_81 : decode cX5_init 81 = .ok (.aload_n 0, 1) := by decide +kernel
theorem dX5_init_82 : decode cX5_init 82 = .ok (.bipush 16, 2) := by decide +kernel
theorem dX5_init_84 : decode cX5_init 84 = .ok (.newarray .int, 2) := by decide +kernel
theorem dX5_init_86 : decode cX5_init 86 = .ok (.putfield 51, 3) := by decide +kernel
theorem dX5_init_89 : decode cX5_init 89 = .ok (.aload_n 0, 1) := by decide +kernel
theorem dX5_init_90 : decode cX5_init 90 = .ok (.iconst 5, 1) := by decide +kernel
theorem dX5_init_91 : decode cX5_init 91 = .ok (.newarray .int, 2) := by decide +kernel
theorem dX5_init_93 : decode cX5_init 93 = .ok (.putfield 54, 3) := by decide +kernel
theorem dX5_init_96 : decode cX5_init 96 = .ok (.aload_n 0, 1) := by decide +kernel
theorem dX5_init_97 : decode cX5_init 97 = .ok (.iconst 0, 1) := by decide +kernel
theorem dX5_init_98 : decode cX5_init 98 = .ok (.putfield 57, 3) := by decide +kernel
theorem dX5_init_101 : decode cX5_init 101 = .ok (.aload_n 0, 1) := by decide +kernel
theorem dX5_init_102 : decode cX5_init 102 = .ok (.iconst 0, 1) := by decide +kernel
theorem dX5_init_103 : decode cX5_init 103 = .ok (.putfield 60, 3) := by decide +kernel
theorem dX5_init_106 : decode cX5_init 106 = .ok (.aload_n 0, 1) := by decide +kernel
theorem dX5_init_107 : decode cX5_init 107 = .ok (.iconst (-1), 1) := by decide +kernel
theorem dX5_init_108 : decode cX5_init 108 = .ok (.putfield 63, 3) := by decide +kernel
theorem dX5_init_111 : decode cX5_init 111 = .ok (.return_, 1) := by decide +kernel
theorem ml_X5_3 : Cond.methodLink RX5 3 objectInit ∈ Wd := mW 36 (by decide +kernel) rfl
theorem cl_X5_9 : Cond.classLink RX5 9 RX9 ∈ Wd := mW 37 (by decide +kernel) rfl
theorem ib_9 : Cond.instantiable RX9 6 ∈ Wd := mW 38 (by decide +kernel) rfl
theorem in_9 : Cond.initialized RX9 ∈ Wd := mW 3 (by decide +kernel) rfl
theorem mi_9 : Mok yX9_init cX9_init 1 none 0 := ⟨mW 3 (by decide +kernel) rfl, mW 41 (by decide +kernel) rfl, ⟨by decide, by decide, by decide +kernel⟩, by decide⟩
theorem ii_9 : Cond.instanceMethod yX9_init ∈ Wd := mW 40 (by decide +kernel) rfl
theorem pf_5_0 : parseFieldDescriptor (uD 5 0) = some (.object "MeanRoads$Tokens") := by decide +kernel
theorem cl_X5_18 : Cond.classLink RX5 18 RX3 ∈ Wd := mW 65 (by decide +kernel) rfl
theorem ib_3 : Cond.instantiable RX3 4 ∈ Wd := mW 66 (by decide +kernel) rfl
theorem in_3 : Cond.initialized RX3 ∈ Wd := mW 4 (by decide +kernel) rfl
theorem mi_3 : Mok yX3_init cX3_init 1 none 0 := ⟨mW 4 (by decide +kernel) rfl, mW 69 (by decide +kernel) rfl, ⟨by decide, by decide, by decide +kernel⟩, by decide⟩
theorem ii_3 : Cond.instanceMethod yX3_init ∈ Wd := mW 68 (by decide +kernel) rfl
theorem pf_5_1 : parseFieldDescriptor (uD 5 1) = some (.object "MeanRoads$Law") := by decide +kernel
theorem pf_5_2 : parseFieldDescriptor (uD 5 2) = some (.object "MeanRoads$Law") := by decide +kernel
theorem pf_5_8 : parseFieldDescriptor (uD 5 8) = some (.array .int) := by decide +kernel
theorem pf_5_9 : parseFieldDescriptor (uD 5 9) = some (.array .int) := by decide +kernel
theorem pf_5_10 : parseFieldDescriptor (uD 5 10) = some (.array .int) := by decide +kernel
theorem pf_5_11 : parseFieldDescriptor (uD 5 11) = some (.array .int) := by decide +kernel
abbrev S5 : Type := (Nat × S9) × (Nat × S3) × (Nat × S3) × Nat × Nat × Nat × Nat
def Wc5 (G : Gx) (a : Nat) (u : S5) : va_W := (a, .inr (5, [.ref (u.1.1), .ref (u.2.1.1), .ref (u.2.2.1.1), .ref (u.2.1.1), .int 0, .int 0, .int 0, .int 0, .ref (u.2.2.2.1), .ref (u.2.2.2.2.1), .ref (u.2.2.2.2.2.1), .ref (u.2.2.2.2.2.2), .int 0, .int 0, .int (-1)])) :: ((((((([] ++ Wc9 G (u.1.1) (u.1.2)) ++ Wc3 G (u.2.1.1) (u.2.1.2)) ++ Wc3 G (u.2.2.1.1) (u.2.2.1.2)) ++ [((u.2.2.2.1), .inl (gCy G 0, 16, .inl (fun _ => 0)))]) ++ [((u.2.2.2.2.1), .inl (gCy G 0, 16, .inl (fun _ => 0)))]) ++ [((u.2.2.2.2.2.1), .inl (gCy G 0, 16, .inl (fun _ => 0)))]) ++ [((u.2.2.2.2.2.2), .inl (gCy G 0, 5, .inl (fun _ => 0)))])
set_option maxHeartbeats 4000000 in
set_option maxRecDepth 20000 in
theorem c_ini_5 (G : Gx) : CtA yX5_init cX5_init 1 2 12 1995 G 5 [.null, .null, .null, .null, .int 0, .int 0, .int 0, .int 0, .null, .null, .null, .null, .int 0, .int 0, .int 0] (Wc5 G) := by
  refine cta_go (own := RX5) (by decide) rfl rfl (by decide) (fun a sz => ?_)
  refine a_aload_n dX5_init_0 rfl rfl ?_
  refine a_obj dX5_init_1 ml_X5_3 (by decide) (by decide) ?_
  refine a_aload_n dX5_init_4 rfl rfl ?_
  refine a_newc (ci := 9) (fs := [.null, .int 0, .int 0, .int 0, .int 0, .int 0]) (r := (RX9, TX9, 6)) dX5_init_5 dX5_init_8 dX5_init_9 rfl cl_X5_9 ib_9 in_9 (by intro j hj; have hj : j < 6 := hj; match j, hj with | 0, _ => rfl | 1, _ => rfl | 2, _ => rfl | 3, _ => rfl | 4, _ => rfl | 5, _ => rfl | j + 6, hj => exact absurd hj (by omega)) mi_9 rfl ii_9 (Or.inr (by decide +kernel)) (c_ini_9 G) (Nat.le_of_ble_eq_true rfl) (Nat.le_of_ble_eq_true rfl) (Nat.le_of_ble_eq_true rfl) (Nat.le_of_ble_eq_true rfl) (fun q1 u2 => ?_)
  refine a_eq (ws1 := (a, .inr (5, [.null, .null, .null, .null, .int 0, .int 0, .int 0, .int 0, .null, .null, .null, .null, .int 0, .int 0, .int 0])) :: ([] ++ Wc9 G q1 u2)) rfl ?_
  refine a_putF dX5_init_12 fl_X5_12 rfl rfl pf_5_0 rfl rfl (Nat.le_of_ble_eq_true rfl) (fs1 := [.ref q1, .null, .null, .null, .int 0, .int 0, .int 0, .int 0, .null, .null, .null, .null, .int 0, .int 0, .int 0]) rfl ?_
  refine a_aload_n dX5_init_15 rfl rfl ?_
  refine a_newc (ci := 3) (fs := [.null, .null, .int 0, .int 0]) (r := (RX3, TX3, 4)) dX5_init_16 dX5_init_19 dX5_init_20 rfl cl_X5_18 ib_3 in_3 (by intro j hj; have hj : j < 4 := hj; match j, hj with | 0, _ => rfl | 1, _ => rfl | 2, _ => rfl | 3, _ => rfl | j + 4, hj => exact absurd hj (by omega)) mi_3 rfl ii_3 (Or.inr (by decide +kernel)) (c_ini_3 G) (Nat.le_of_ble_eq_true rfl) (Nat.le_of_ble_eq_true rfl) (Nat.le_of_ble_eq_true rfl) (Nat.le_of_ble_eq_true rfl) (fun q3 u4 => ?_)
  refine a_eq (ws1 := (a, .inr (5, [.ref q1, .null, .null, .null, .int 0, .int 0, .int 0, .int 0, .null, .null, .null, .null, .int 0, .int 0, .int 0])) :: (([] ++ Wc9 G q1 u2) ++ Wc3 G q3 u4)) rfl ?_
  refine a_putF dX5_init_23 fl_X5_21 rfl rfl pf_5_1 rfl rfl (Nat.le_of_ble_eq_true rfl) (fs1 := [.ref q1, .ref q3, .null, .null, .int 0, .int 0, .int 0, .int 0, .null, .null, .null, .null, .int 0, .int 0, .int 0]) rfl ?_
  refine a_aload_n dX5_init_26 rfl rfl ?_
  refine a_newc (ci := 3) (fs := [.null, .null, .int 0, .int 0]) (r := (RX3, TX3, 4)) dX5_init_27 dX5_init_30 dX5_init_31 rfl cl_X5_18 ib_3 in_3 (by intro j hj; have hj : j < 4 := hj; match j, hj with | 0, _ => rfl | 1, _ => rfl | 2, _ => rfl | 3, _ => rfl | j + 4, hj => exact absurd hj (by omega)) mi_3 rfl ii_3 (Or.inr (by decide +kernel)) (c_ini_3 G) (Nat.le_of_ble_eq_true rfl) (Nat.le_of_ble_eq_true rfl) (Nat.le_of_ble_eq_true rfl) (Nat.le_of_ble_eq_true rfl) (fun q5 u6 => ?_)
  refine a_eq (ws1 := (a, .inr (5, [.ref q1, .ref q3, .null, .null, .int 0, .int 0, .int 0, .int 0, .null, .null, .null, .null, .int 0, .int 0, .int 0])) :: ((([] ++ Wc9 G q1 u2) ++ Wc3 G q3 u4) ++ Wc3 G q5 u6)) rfl ?_
  refine a_putF dX5_init_34 fl_X5_25 rfl rfl pf_5_2 rfl rfl (Nat.le_of_ble_eq_true rfl) (fs1 := [.ref q1, .ref q3, .ref q5, .null, .int 0, .int 0, .int 0, .int 0, .null, .null, .null, .null, .int 0, .int 0, .int 0]) rfl ?_
  refine a_aload_n dX5_init_37 rfl rfl ?_
  refine a_aload_n dX5_init_38 rfl rfl ?_
  refine a_get dX5_init_39 fl_X5_21 (v := .ref q3) rfl ?_
  refine a_put dX5_init_42 fl_X5_28 rfl pf_5_3 rfl rfl (Nat.le_of_ble_eq_true rfl) (fs1 := [.ref q1, .ref q3, .ref q5, .ref q3, .int 0, .int 0, .int 0, .int 0, .null, .null, .null, .null, .int 0, .int 0, .int 0]) rfl ?_
  refine a_aload_n dX5_init_45 rfl rfl ?_
  refine a_iconst (v := 0) dX5_init_46 (by decide) ?_
  refine a_put dX5_init_47 fl_X5_31 rfl pf_5_4 rfl rfl (Nat.le_of_ble_eq_true rfl) (fs1 := [.ref q1, .ref q3, .ref q5, .ref q3, .int 0, .int 0, .int 0, .int 0, .null, .null, .null, .null, .int 0, .int 0, .int 0]) rfl ?_
  refine a_aload_n dX5_init_50 rfl rfl ?_
  refine a_iconst (v := 0) dX5_init_51 (by decide) ?_
  refine a_put dX5_init_52 fl_X5_35 rfl pf_5_5 rfl rfl (Nat.le_of_ble_eq_true rfl) (fs1 := [.ref q1, .ref q3, .ref q5, .ref q3, .int 0, .int 0, .int 0, .int 0, .null, .null, .null, .null, .int 0, .int 0, .int 0]) rfl ?_
  refine a_aload_n dX5_init_55 rfl rfl ?_
  refine a_iconst (v := 0) dX5_init_56 (by decide) ?_
  refine a_put dX5_init_57 fl_X5_38 rfl pf_5_6 rfl rfl (Nat.le_of_ble_eq_true rfl) (fs1 := [.ref q1, .ref q3, .ref q5, .ref q3, .int 0, .int 0, .int 0, .int 0, .null, .null, .null, .null, .int 0, .int 0, .int 0]) rfl ?_
  refine a_aload_n dX5_init_60 rfl rfl ?_
  refine a_iconst (v := 0) dX5_init_61 (by decide) ?_
  refine a_put dX5_init_62 fl_X5_41 rfl pf_5_7 rfl rfl (Nat.le_of_ble_eq_true rfl) (fs1 := [.ref q1, .ref q3, .ref q5, .ref q3, .int 0, .int 0, .int 0, .int 0, .null, .null, .null, .null, .int 0, .int 0, .int 0]) rfl ?_
  refine a_aload_n dX5_init_65 rfl rfl ?_
  refine a_bipush (v := 16) dX5_init_66 (by decide) ?_
  refine a_newa (t := 0) (N := 16) (f0 := .inl (fun _ => 0)) dX5_init_68 ac_int rfl (fun _ _ => rfl) rfl (fun _ => rfl) (by decide) (by decide) (by decide) (Nat.le_of_ble_eq_true rfl) (Nat.le_of_ble_eq_true rfl) (fun q7 => ?_)
  refine a_eq (ws1 := (a, .inr (5, [.ref q1, .ref q3, .ref q5, .ref q3, .int 0, .int 0, .int 0, .int 0, .null, .null, .null, .null, .int 0, .int 0, .int 0])) :: (((([] ++ Wc9 G q1 u2) ++ Wc3 G q3 u4) ++ Wc3 G q5 u6) ++ [(q7, .inl (gCy G 0, 16, .inl (fun _ => 0)))])) rfl ?_
  refine a_putF dX5_init_70 fl_X5_44 rfl rfl pf_5_8 rfl rfl (Nat.le_of_ble_eq_true rfl) (fs1 := [.ref q1, .ref q3, .ref q5, .ref q3, .int 0, .int 0, .int 0, .int 0, .ref q7, .null, .null, .null, .int 0, .int 0, .int 0]) rfl ?_
  refine a_aload_n dX5_init_73 rfl rfl ?_
  refine a_bipush (v := 16) dX5_init_74 (by decide) ?_
  refine a_newa (t := 0) (N := 16) (f0 := .inl (fun _ => 0)) dX5_init_76 ac_int rfl (fun _ _ => rfl) rfl (fun _ => rfl) (by decide) (by decide) (by decide) (Nat.le_of_ble_eq_true rfl) (Nat.le_of_ble_eq_true rfl) (fun q8 => ?_)
  refine a_eq (ws1 := (a, .inr (5, [.ref q1, .ref q3, .ref q5, .ref q3, .int 0, .int 0, .int 0, .int 0, .ref q7, .null, .null, .null, .int 0, .int 0, .int 0])) :: ((((([] ++ Wc9 G q1 u2) ++ Wc3 G q3 u4) ++ Wc3 G q5 u6) ++ [(q7, .inl (gCy G 0, 16, .inl (fun _ => 0)))]) ++ [(q8, .inl (gCy G 0, 16, .inl (fun _ => 0)))])) rfl ?_
  refine a_putF dX5_init_78 fl_X5_48 rfl rfl pf_5_9 rfl rfl (Nat.le_of_ble_eq_true rfl) (fs1 := [.ref q1, .ref q3, .ref q5, .ref q3, .int 0, .int 0, .int 0, .int 0, .ref q7, .ref q8, .null, .null, .int 0, .int 0, .int 0]) rfl ?_
  refine a_aload_n dX5_init_81 rfl rfl ?_
  refine a_bipush (v := 16) dX5_init_82 (by decide) ?_
  refine a_newa (t := 0) (N := 16) (f0 := .inl (fun _ => 0)) dX5_init_84 ac_int rfl (fun _ _ => rfl) rfl (fun _ => rfl) (by decide) (by decide) (by decide) (Nat.le_of_ble_eq_true rfl) (Nat.le_of_ble_eq_true rfl) (fun q9 => ?_)
  refine a_eq (ws1 := (a, .inr (5, [.ref q1, .ref q3, .ref q5, .ref q3, .int 0, .int 0, .int 0, .int 0, .ref q7, .ref q8, .null, .null, .int 0, .int 0, .int 0])) :: (((((([] ++ Wc9 G q1 u2) ++ Wc3 G q3 u4) ++ Wc3 G q5 u6) ++ [(q7, .inl (gCy G 0, 16, .inl (fun _ => 0)))]) ++ [(q8, .inl (gCy G 0, 16, .inl (fun _ => 0)))]) ++ [(q9, .inl (gCy G 0, 16, .inl (fun _ => 0)))])) rfl ?_
  refine a_putF dX5_init_86 fl_X5_51 rfl rfl pf_5_10 rfl rfl (Nat.le_of_ble_eq_true rfl) (fs1 := [.ref q1, .ref q3, .ref q5, .ref q3, .int 0, .int 0, .int 0, .int 0, .ref q7, .ref q8, .ref q9, .null, .int 0, .int 0, .int 0]) rfl ?_
  refine a_aload_n dX5_init_89 rfl rfl ?_
  refine a_iconst (v := 5) dX5_init_90 (by decide) ?_
  refine a_newa (t := 0) (N := 5) (f0 := .inl (fun _ => 0)) dX5_init_91 ac_int rfl (fun _ _ => rfl) rfl (fun _ => rfl) (by decide) (by decide) (by decide) (Nat.le_of_ble_eq_true rfl) (Nat.le_of_ble_eq_true rfl) (fun q10 => ?_)
  refine a_eq (ws1 := (a, .inr (5, [.ref q1, .ref q3, .ref q5, .ref q3, .int 0, .int 0, .int 0, .int 0, .ref q7, .ref q8, .ref q9, .null, .int 0, .int 0, .int 0])) :: ((((((([] ++ Wc9 G q1 u2) ++ Wc3 G q3 u4) ++ Wc3 G q5 u6) ++ [(q7, .inl (gCy G 0, 16, .inl (fun _ => 0)))]) ++ [(q8, .inl (gCy G 0, 16, .inl (fun _ => 0)))]) ++ [(q9, .inl (gCy G 0, 16, .inl (fun _ => 0)))]) ++ [(q10, .inl (gCy G 0, 5, .inl (fun _ => 0)))])) rfl ?_
  refine a_putF dX5_init_93 fl_X5_54 rfl rfl pf_5_11 rfl rfl (Nat.le_of_ble_eq_true rfl) (fs1 := [.ref q1, .ref q3, .ref q5, .ref q3, .int 0, .int 0, .int 0, .int 0, .ref q7, .ref q8, .ref q9, .ref q10, .int 0, .int 0, .int 0]) rfl ?_
  refine a_aload_n dX5_init_96 rfl rfl ?_
  refine a_iconst (v := 0) dX5_init_97 (by decide) ?_
  refine a_put dX5_init_98 fl_X5_57 rfl pf_5_12 rfl rfl (Nat.le_of_ble_eq_true rfl) (fs1 := [.ref q1, .ref q3, .ref q5, .ref q3, .int 0, .int 0, .int 0, .int 0, .ref q7, .ref q8, .ref q9, .ref q10, .int 0, .int 0, .int 0]) rfl ?_
  refine a_aload_n dX5_init_101 rfl rfl ?_
  refine a_iconst (v := 0) dX5_init_102 (by decide) ?_
  refine a_put dX5_init_103 fl_X5_60 rfl pf_5_13 rfl rfl (Nat.le_of_ble_eq_true rfl) (fs1 := [.ref q1, .ref q3, .ref q5, .ref q3, .int 0, .int 0, .int 0, .int 0, .ref q7, .ref q8, .ref q9, .ref q10, .int 0, .int 0, .int 0]) rfl ?_
  refine a_aload_n dX5_init_106 rfl rfl ?_
  refine a_iconst (v := (-1)) dX5_init_107 (by decide) ?_
  refine a_put dX5_init_108 fl_X5_63 rfl pf_5_14 rfl rfl (Nat.le_of_ble_eq_true rfl) (fs1 := [.ref q1, .ref q3, .ref q5, .ref q3, .int 0, .int 0, .int 0, .int 0, .ref q7, .ref q8, .ref q9, .ref q10, .int 0, .int 0, .int (-1)]) rfl ?_
  exact a_ret ((q1, u2), (q3, u4), (q5, u6), q7, q8, q9, q10) dX5_init_111 (List.Perm.refl _) (Nat.le_of_ble_eq_true rfl) (Nat.le_of_ble_eq_true rfl)
