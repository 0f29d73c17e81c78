theorem vp_lt {i : Int32} {n : Nat} (h : vp_in i n) : i.toNatClampNeg < n := Nat.not_le.mp fun q => h (Or.inr q)
def isB (v : Int32) : Prop := v = 0 ∨ v = 1
theorem isB_n {v : Int32} (h : isB v) : narrow .boolean (.int v) = .int v := by
  rcases h with rfl | rfl <;> rfl
theorem jn_el {α : Sort _} {T : α} {B : α → Prop} {P : Prop} (hw : ∀ J, J = T → B J) (k : ∀ J, J = T → B J → P) : P := k T rfl (hw T rfl)
theorem lgc_gt (x y : Int64) : 0 < lg_cmp x y ↔ y < x := by
  unfold lg_cmp
  by_cases h1 : x > y
  · rw [if_pos h1]; exact ⟨fun _ => h1, fun _ => by decide⟩
  · rw [if_neg h1]
    by_cases h2 : x = y
    · rw [if_pos h2]; exact ⟨fun q => absurd q (by decide), fun q => absurd q h1⟩
    · rw [if_neg h2]; exact ⟨fun q => absurd q (by decide), fun q => absurd q h1⟩
theorem lgc_eq (x y : Int64) : lg_cmp x y = 0 ↔ x = y := by
  unfold lg_cmp
  by_cases h1 : x > y
  · rw [if_pos h1]; exact ⟨fun q => absurd q (by decide), fun q => by subst q; exact absurd h1 (by rw [gt_iff_lt, Int64.lt_iff_toInt_lt]; omega)⟩
  · rw [if_neg h1]
    by_cases h2 : x = y
    · rw [if_pos h2]; exact ⟨fun _ => h2, fun _ => rfl⟩
    · rw [if_neg h2]; exact ⟨fun q => absurd q (by decide), fun q => absurd q h2⟩
theorem lgc_lt (x y : Int64) : lg_cmp x y < 0 ↔ x < y := by
  have e1 := Int64.lt_iff_toInt_lt (x := x) (y := y)
  have e2 := Int64.lt_iff_toInt_lt (x := y) (y := x)
  unfold lg_cmp
  by_cases h1 : x > y
  · rw [if_pos h1]; exact ⟨fun q => absurd q (by decide), fun q => by have := e1.mp q; have := e2.mp h1; omega⟩
  · rw [if_neg h1]
    by_cases h2 : x = y
    · rw [if_pos h2]; exact ⟨fun q => absurd q (by decide), fun q => by subst h2; have := e1.mp q; omega⟩
    · rw [if_neg h2]
      refine ⟨fun _ => e1.mpr ?_, fun _ => by decide⟩
      have a1 : ¬ y.toInt < x.toInt := fun q => h1 (e2.mpr q)
      have a2 : x.toInt ≠ y.toInt := fun q => h2 (Int64.toInt_inj.mp q)
      omega
theorem lgc_ge (x y : Int64) : 0 ≤ lg_cmp x y ↔ y ≤ x := by
  rw [← Int32.not_lt, lgc_lt, Int64.not_lt]
theorem lgc_le (x y : Int64) : lg_cmp x y ≤ 0 ↔ x ≤ y := by
  rw [← Int32.not_lt, lgc_gt, Int64.not_lt]
section GOROWS4
variable {cc : ByteArray} {nL : Nat} {own : String} {ret : Option FieldType} {d : Nat} {G : Gx} {Qc : Array Value → State → Outcome → State → Prop} {pc : Nat} {lv lv1 : List (Nat × Value)} {rest : List Value} {h : Hp}
theorem ct_go {y : MethodName} {av : List Value} (lv : List (Nat × Value)) (hy : plainFor y = true) (ho : y.cls = own) (hav : (lg_sl av).length ≤ nL) (hlv : lv_args 0 av = lv) (k : Go cc nL own ret d G Qc 0 lv [] h) : Ct y cc nL ret d G av h Qc := by
  subst ho
  exact ct_of hy hav hlv k
theorem g_ialdK {o k n : Nat} {i : Int32} (hd : decode cc pc = .ok (.iaload, 1)) (ho : isA o 0) (hn : alen o = n) (hin : vp_in i n) (hk : i.toNatClampNeg = k) (kk : Go cc nL own ret d G Qc (pc + 1) lv (.int (gI h o k) :: rest) h) : Go cc nL own ret d G Qc pc lv (.int i :: .ref (gAd G o) :: rest) h := by
  subst hk
  exact g_iald hd ho hn hin kk
theorem g_iastK {o k n : Nat} {i x : Int32} (hd : decode cc pc = .ok (.iastore, 1)) (ho : isA o 0) (hn : alen o = n) (hin : vp_in i n) (hk : i.toNatClampNeg = k) (kk : Go cc nL own ret d G Qc (pc + 1) lv rest (sI h o k x)) : Go cc nL own ret d G Qc pc lv (.int x :: .int i :: .ref (gAd G o) :: rest) h := by
  subst hk
  exact g_iast hd ho hn hin kk
theorem g_topi {x : Int32} (k : ∀ y : Int32, y = x → Go cc nL own ret d G Qc pc lv (.int y :: rest) h) : Go cc nL own ret d G Qc pc lv (.int x :: rest) h := k x rfl
theorem g_topj {x : Int64} (k : ∀ y : Int64, y = x → Go cc nL own ret d G Qc pc lv (.long y :: rest) h) : Go cc nL own ret d G Qc pc lv (.long x :: rest) h := k x rfl
theorem g_heap (k : ∀ h1 : Hp, h1 = h → Go cc nL own ret d G Qc pc lv rest h1) : Go cc nL own ret d G Qc pc lv rest h := k h rfl
theorem g_lc_eq {x y : Int64} {off : Int} (tgt : Nat) (hd : decode cc pc = .ok (.lcmp, 1)) (hd1 : decode cc (pc + 1) = .ok (.ifCond .eq off, 3)) (ht : ((pc + 1 : Nat) : Int) + off = (tgt : Int)) (kt : x = y → Go cc nL own ret d G Qc tgt lv rest h) (kf : ¬ x = y → Go cc nL own ret d G Qc (pc + 1 + 3) lv rest h) : Go cc nL own ret d G Qc pc lv (.long y :: .long x :: rest) h := g_lcmp hd (g_if_eq tgt hd1 ht (fun q => kt ((lgc_eq x y).mp q)) (fun q => kf (fun z => q ((lgc_eq x y).mpr z))))
theorem g_lc_ne {x y : Int64} {off : Int} (tgt : Nat) (hd : decode cc pc = .ok (.lcmp, 1)) (hd1 : decode cc (pc + 1) = .ok (.ifCond .ne off, 3)) (ht : ((pc + 1 : Nat) : Int) + off = (tgt : Int)) (kt : ¬ x = y → Go cc nL own ret d G Qc tgt lv rest h) (kf : x = y → Go cc nL own ret d G Qc (pc + 1 + 3) lv rest h) : Go cc nL own ret d G Qc pc lv (.long y :: .long x :: rest) h := g_lcmp hd (g_if_ne tgt hd1 ht (fun q => kt (fun z => q ((lgc_eq x y).mpr z))) (fun q => kf ((lgc_eq x y).mp q)))
theorem g_lc_lt {x y : Int64} {off : Int} (tgt : Nat) (hd : decode cc pc = .ok (.lcmp, 1)) (hd1 : decode cc (pc + 1) = .ok (.ifCond .lt off, 3)) (ht : ((pc + 1 : Nat) : Int) + off = (tgt : Int)) (kt : x < y → Go cc nL own ret d G Qc tgt lv rest h) (kf : ¬ x < y → Go cc nL own ret d G Qc (pc + 1 + 3) lv rest h) : Go cc nL own ret d G Qc pc lv (.long y :: .long x :: rest) h := g_lcmp hd (g_if_lt tgt hd1 ht (fun q => kt ((lgc_lt x y).mp q)) (fun q => kf (fun z => q ((lgc_lt x y).mpr z))))
theorem g_lc_ge {x y : Int64} {off : Int} (tgt : Nat) (hd : decode cc pc = .ok (.lcmp, 1)) (hd1 : decode cc (pc + 1) = .ok (.ifCond .ge off, 3)) (ht : ((pc + 1 : Nat) : Int) + off = (tgt : Int)) (kt : y ≤ x → Go cc nL own ret d G Qc tgt lv rest h) (kf : ¬ y ≤ x → Go cc nL own ret d G Qc (pc + 1 + 3) lv rest h) : Go cc nL own ret d G Qc pc lv (.long y :: .long x :: rest) h := g_lcmp hd (g_if_ge tgt hd1 ht (fun q => kt ((lgc_ge x y).mp q)) (fun q => kf (fun z => q ((lgc_ge x y).mpr z))))
theorem g_lc_gt {x y : Int64} {off : Int} (tgt : Nat) (hd : decode cc pc = .ok (.lcmp, 1)) (hd1 : decode cc (pc + 1) = .ok (.ifCond .gt off, 3)) (ht : ((pc + 1 : Nat) : Int) + off = (tgt : Int)) (kt : y < x → Go cc nL own ret d G Qc tgt lv rest h) (kf : ¬ y < x → Go cc nL own ret d G Qc (pc + 1 + 3) lv rest h) : Go cc nL own ret d G Qc pc lv (.long y :: .long x :: rest) h := g_lcmp hd (g_if_gt tgt hd1 ht (fun q => kt ((lgc_gt x y).mp q)) (fun q => kf (fun z => q ((lgc_gt x y).mpr z))))
theorem g_lc_le {x y : Int64} {off : Int} (tgt : Nat) (hd : decode cc pc = .ok (.lcmp, 1)) (hd1 : decode cc (pc + 1) = .ok (.ifCond .le off, 3)) (ht : ((pc + 1 : Nat) : Int) + off = (tgt : Int)) (kt : x ≤ y → Go cc nL own ret d G Qc tgt lv rest h) (kf : ¬ x ≤ y → Go cc nL own ret d G Qc (pc + 1 + 3) lv rest h) : Go cc nL own ret d G Qc pc lv (.long y :: .long x :: rest) h := g_lcmp hd (g_if_le tgt hd1 ht (fun q => kt ((lgc_le x y).mp q)) (fun q => kf (fun z => q ((lgc_le x y).mpr z))))
theorem g_tswI {dflt lo hi off : Int} {offs : Array Int} {len : Nat} {x : Int32} (v : Int32) (tgt : Nat) (hd : decode cc pc = .ok (.tableswitch dflt lo hi offs, len)) (hx : x = v) (h1 : ¬ v.toInt < lo) (h2 : ¬ hi < v.toInt) (ho : offs[(v.toInt - lo).toNat]? = some off) (ht : (pc : Int) + off = (tgt : Int)) (k : Go cc nL own ret d G Qc tgt lv rest h) : Go cc nL own ret d G Qc pc lv (.int x :: rest) h := by
  subst hx
  intro p l e s m args below meth c H locs ls C hr hk K RR hl
  exact lv_tableIn C.1 C.2.1 hd h1 h2 ho ht (k p l e s m args below meth c H locs ls C hr hk K RR hl)
theorem g_tswD {dflt lo hi : Int} {offs : Array Int} {len : Nat} {x : Int32} (tgt : Nat) (hd : decode cc pc = .ok (.tableswitch dflt lo hi offs, len)) (hx : x.toInt < lo ∨ hi < x.toInt) (ht : (pc : Int) + dflt = (tgt : Int)) (k : Go cc nL own ret d G Qc tgt lv rest h) : Go cc nL own ret d G Qc pc lv (.int x :: rest) h := by
  intro p l e s m args below meth c H locs ls C hr hk K RR hl
  exact lv_tableOut C.1 C.2.1 hd hx ht (k p l e s m args below meth c H locs ls C hr hk K RR hl)
theorem g_lsw {dflt off : Int} {ps : Array (Int × Int)} {len : Nat} {x : Int32} (tgt : Nat) (hd : decode cc pc = .ok (.lookupswitch dflt ps, len)) (hp : (ps.toList.zip (ps.toList.drop 1)).all (fun (a, next) => a.1 < next.1) = true) (ho : Op.lookupswitch.offset ps.toList dflt x.toInt = off) (ht : (pc : Int) + off = (tgt : Int)) (k : Go cc nL own ret d G Qc tgt lv rest h) : Go cc nL own ret d G Qc pc lv (.int x :: rest) h := by
  intro p l e s m args below meth c H locs ls C hr hk K RR hl
  exact lv_lookup C.1 C.2.1 hd hp ho ht (k p l e s m args below meth c H locs ls C hr hk K RR hl)
/-- a table's range: below, above, or one of n places -/
theorem tsw_in (x : Int32) (lo hi : Int) (n : Nat) (hn : hi + 1 = lo + n) : (x.toInt < lo ∨ hi < x.toInt) ∨ ∃ j : Nat, j < n ∧ x.toInt = lo + j := by
  by_cases h1 : x.toInt < lo
  · exact Or.inl (Or.inl h1)
  · by_cases h2 : hi < x.toInt
    · exact Or.inl (Or.inr h2)
    · exact Or.inr ⟨(x.toInt - lo).toNat, by omega, by omega⟩
theorem tsw_eq {x v : Int32} {a : Int} (h : x.toInt = a) (hv : v.toInt = a) : x = v := Int32.toInt_inj.mp (h.trans hv.symm)
theorem g_null (hd : decode cc pc = .ok (.aconst_null, 1)) (k : Go cc nL own ret d G Qc (pc + 1) lv (.null :: rest) h) : Go cc nL own ret d G Qc pc lv rest h := by
  intro p l e s m args below meth c H locs ls C hr hk K RR hl
  exact lv_null C.1 C.2.1 hd (k p l e s m args below meth c H locs ls C hr hk K RR hl)
theorem g_ifnull {x : Nat} {off : Int} (hd : decode cc pc = .ok (.ifnull off, 3)) (k : Go cc nL own ret d G Qc (pc + 3) lv rest h) : Go cc nL own ret d G Qc pc lv (.ref x :: rest) h := by
  intro p l e s m args below meth c H locs ls C hr hk K RR hl
  exact lv_ifnull C.1 C.2.1 hd (k p l e s m args below meth c H locs ls C hr hk K RR hl)
theorem g_ifnullN {off : Int} (tgt : Nat) (hd : decode cc pc = .ok (.ifnull off, 3)) (ht : (pc : Int) + off = (tgt : Int)) (k : Go cc nL own ret d G Qc tgt lv rest h) : Go cc nL own ret d G Qc pc lv (.null :: rest) h := by
  intro p l e s m args below meth c H locs ls C hr hk K RR hl
  exact lv_ifnullN C.1 C.2.1 hd ht (k p l e s m args below meth c H locs ls C hr hk K RR hl)
theorem g_ifnonnull {x : Nat} {off : Int} (tgt : Nat) (hd : decode cc pc = .ok (.ifnonnull off, 3)) (ht : (pc : Int) + off = (tgt : Int)) (k : Go cc nL own ret d G Qc tgt lv rest h) : Go cc nL own ret d G Qc pc lv (.ref x :: rest) h := by
  intro p l e s m args below meth c H locs ls C hr hk K RR hl
  exact lv_ifnonnull C.1 C.2.1 hd ht (k p l e s m args below meth c H locs ls C hr hk K RR hl)
theorem g_ifnonnullN {off : Int} (hd : decode cc pc = .ok (.ifnonnull off, 3)) (k : Go cc nL own ret d G Qc (pc + 3) lv rest h) : Go cc nL own ret d G Qc pc lv (.null :: rest) h := by
  intro p l e s m args below meth c H locs ls C hr hk K RR hl
  exact lv_ifnonnullN C.1 C.2.1 hd (k p l e s m args below meth c H locs ls C hr hk K RR hl)
end GOROWS4
