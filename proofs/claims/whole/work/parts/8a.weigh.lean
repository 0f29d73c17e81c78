/-! the class weighs plans, one after the other -/
def isBX (a : Row) (w who : Nat) (v : Nat → Int) (X : Nat → Nat) : Prop := ∀ p, p < nP a → svX a w who X p = v p
noncomputable def cnX (a : Row) (w who : Nat) (l : List (Nat → Nat)) (v : Nat → Int) (p : Nat) : Nat := (l.filter (fun X => decide (svX a w who X p = v p))).length
def VB (a : Row) (w who : Nat) (l : List (Nat → Nat)) (v : Nat → Int) : Prop := ∀ p, p < nP a → (∀ X, X ∈ l → ¬ btr who (svX a w who X p) (v p)) ∧ ∃ X, X ∈ l ∧ svX a w who X p = v p
def FBX (a : Row) (w who : Nat) (v : Nat → Int) (l : List (Nat → Nat)) (X : Nat → Nat) : Prop := ∃ l1 l2, l = l1 ++ X :: l2 ∧ isBX a w who v X ∧ ∀ Z, Z ∈ l1 → ¬ isBX a w who v Z
theorem btr_ir (who : Nat) (x : Int) : ¬ btr who x x := by unfold btr; omega
theorem btr_tr {who : Nat} {x y z : Int} (h1 : btr who x y) (h2 : ¬ btr who z y) : ¬ btr who z x := by unfold btr at *; omega
theorem cn_s (a : Row) (w who : Nat) (l : List (Nat → Nat)) (Y : Nat → Nat) (v : Nat → Int) (p : Nat) : cnX a w who (l ++ [Y]) v p = cnX a w who l v p + (if svX a w who Y p = v p then 1 else 0) := by
  unfold cnX
  rw [List.filter_append, List.length_append]
  congr 1
  by_cases c : svX a w who Y p = v p
  · rw [if_pos c, List.filter_cons_of_pos (by exact decide_eq_true c)]; rfl
  · rw [if_neg c, List.filter_cons_of_neg (by rw [decide_eq_false c]; decide)]; rfl
theorem cn_v {a : Row} {w who : Nat} {l : List (Nat → Nat)} {v v' : Nat → Int} {p : Nat} (h : v' p = v p) : cnX a w who l v' p = cnX a w who l v p := by
  unfold cnX; rw [h]
theorem cn_0 {a : Row} {w who : Nat} {l : List (Nat → Nat)} {v' : Nat → Int} {p : Nat} (h : ∀ X, X ∈ l → ¬ svX a w who X p = v' p) : cnX a w who l v' p = 0 := by
  unfold cnX
  rw [List.filter_eq_nil_iff.mpr (fun X hX => by rw [decide_eq_true_iff]; exact h X hX)]; rfl
theorem cn_pos {a : Row} {w who : Nat} {l : List (Nat → Nat)} {v : Nat → Int} {p : Nat} (h : ∃ X, X ∈ l ∧ svX a w who X p = v p) : 1 ≤ cnX a w who l v p := by
  obtain ⟨X, h1, h2⟩ := h
  unfold cnX
  exact List.length_pos_of_mem (List.mem_filter.mpr ⟨h1, by exact decide_eq_true h2⟩)
theorem cn_le {a : Row} {w who : Nat} {l : List (Nat → Nat)} {v : Nat → Int} {p : Nat} : cnX a w who l v p ≤ l.length := List.length_filter_le _ _
theorem vb_step {a : Row} {w who : Nat} {l : List (Nat → Nat)} {Y : Nat → Nat} {v v' : Nat → Int} (hv : VB a w who l v) (h : ∀ p, p < nP a → (btr who (svX a w who Y p) (v p) → v' p = svX a w who Y p) ∧ (¬ btr who (svX a w who Y p) (v p) → v' p = v p)) : VB a w who (l ++ [Y]) v' := by
  intro p hp
  obtain ⟨b1, X0, b2, b3⟩ := hv p hp
  obtain ⟨u, n⟩ := h p hp
  by_cases c : btr who (svX a w who Y p) (v p)
  · rw [u c]
    refine ⟨fun X hX => ?_, Y, List.mem_append_right _ List.mem_cons_self, rfl⟩
    rcases List.mem_append.mp hX with m | m
    · exact btr_tr c (b1 X m)
    · rw [List.mem_singleton.mp m]; exact btr_ir _ _
  · rw [n c]
    refine ⟨fun X hX => ?_, X0, List.mem_append_left _ b2, b3⟩
    rcases List.mem_append.mp hX with m | m
    · exact b1 X m
    · rw [List.mem_singleton.mp m]; exact c
def WS (a : Row) (w who o4 : Nat) (l : List (Nat → Nat)) (fnd : Int32) (h : Hp) : Prop := (l = [] ∧ fnd = 0 ∧ ∀ p, p < nP a → gI h o4 p = 0) ∨ (l ≠ [] ∧ ∃ v, VB a w who l v ∧ (∀ p, p < nP a → (gI h 82 p).toInt = v p ∧ gI h o4 p = nI (cnX a w who l v p)) ∧ ((fnd = 0 ∧ ∀ X, X ∈ l → ¬ isBX a w who v X) ∨ (fnd = 1 ∧ ∃ X, FBX a w who v l X ∧ ∀ p, p < nP a → ownB (mnA a) who p = true → gI h 83 p = nI (tw (low (X p))))))
/-- the objects that weighing writes -/
def oWP (a : Row) (o4 who : Nat) : Nat → Nat → Bool := fun o k => (decide (73 ≤ o) && decide (o ≤ 79)) || o == 82 || o == o4 || (o == 83 && ownB (mnA a) who k)
theorem oWP_7 {a : Row} {o4 who : Nat} (o k : Nat) (h : oWP a o4 who o k = false) : o7 o k = false := by
  simp only [oWP, Bool.or_eq_false_iff] at h; exact h.1.1.1
theorem oWP_R {a : Row} {o4 who : Nat} (o k : Nat) (h : oWP a o4 who o k = false) : oR o4 o k = false := by
  simp only [oWP, Bool.or_eq_false_iff] at h
  simp only [oR, Bool.or_eq_false_iff]; exact ⟨h.1.1.2, h.1.2⟩
theorem oWP_83 {a : Row} {o4 who : Nat} (o k : Nat) (h : oWP a o4 who o k = false) : (o == 83 && ownB (mnA a) who k) = false := by
  simp only [oWP, Bool.or_eq_false_iff] at h; exact h.2
theorem oWP_74 {a : Row} {o4 who : Nat} (o k : Nat) (h : oWP a o4 who o k = false) : (o == 74) = false := by
  have := o7_n (oWP_7 o k h)
  rw [beq_eq_false_iff_ne]; omega
theorem c_weighStep {a : Row} {w who o4 : Nat} {Q : Hp → Prop} {n : Nat} {x7 fnd : Int32} {h0 : Hp} {l : List (Nat → Nat)} {Y : Nat → Nat} (O : LandOK a) (hw : w < 10) (hwho : who < 2) (ho : o4 = 84 ∨ o4 = 85) (ll : l.length < 324) (ex : x7 = nI l.length) (hX : XOK a w Y) (hY : ∀ p, p < nP a → ownB (mnA a) who p = true → ∃ e, wayOK a w p e ∧ Y p = 2 ^ e) (V0 : SV a w Y h0) (FL : FLg a w h0) (W0 : WS a w who o4 l fnd h0) (k : ∀ h1 fnd', Fq (oWP a o4 who) h0 h1 → WS a w who o4 (l ++ [Y]) fnd' h1 → SV a w (nxt (ownB (mnA a) who) (wys a w) (nP a) 0 Y).1 h1 → Game_weighPlans_L25 o4 (nI who) Q n (if (nxt (ownB (mnA a) who) (wys a w) (nP a) 0 Y).2 = true then 1 else 0) fnd' (nI (l.length + 1)) h1) : Game_weighPlans_L25 o4 (nI who) Q (n + 1) 1 fnd x7 h0 := by
  have h8 := O.1.2.1
  have h1' := O.1.1
  subst ex
  unfold Game_weighPlans_L25
  refine pk_le 324 l.length (fun c => absurd c (by omega)) (fun _ => brF (by decide) ?_)
  refine c_look O hw hX V0 (fun h2 F2 K2 => ?_)
  have V2 := SV_k V0 F2 oLk_S
  have F2' : Fq (oWP a o4 who) h0 h2 := F2.mo (fun o k h => o7_Lk o k (oWP_7 o k h))
  have s2 : ∀ p, p < nP a → (gI h2 (if who = 1 then 78 else 79) p).toInt = svX a w who Y p := fun p hp => LK_s K2 hwho hp
  have k82 : ∀ p, gI h2 82 p = gI h0 82 p := fun p => F2.1.1 82 p rfl
  have k4 : ∀ p, gI h2 o4 p = gI h0 o4 p := fun p => F2.1.1 o4 p (by rcases ho with rfl | rfl <;> rfl)
  have k83 : ∀ p, gI h2 83 p = gI h0 83 p := fun p => F2.1.1 83 p rfl
  have n78 : ∀ k, oR o4 (if who = 1 then 78 else 79) k = false := fun k => by
    by_cases c : who = 1
    · rw [if_pos c]; simp only [oR, Bool.or_eq_false_iff, beq_eq_false_iff_ne]; omega
    · rw [if_neg c]; simp only [oR, Bool.or_eq_false_iff, beq_eq_false_iff_ne]; omega
  have n83 : ∀ k, oR o4 83 k = false := fun k => by
    simp only [oR, Bool.or_eq_false_iff, beq_eq_false_iff_ne]; omega
  have nS : ∀ o k, (14 ≤ o ∧ o ≤ 19) ∨ (o = 73 ∧ k = 1) ∨ o = 74 → oR o4 o k = false := fun o k h => by
    simp only [oR, Bool.or_eq_false_iff, beq_eq_false_iff_ne]; omega
  refine c_raiseV O V2.1 hwho ho s2 (fun h3 r F3 u r3 => ?_)
  have V3 := SV_k V2 F3 nS
  have F3' : Fq (oWP a o4 who) h0 h3 := F2'.tr (F3.mo oWP_R)
  have s3 : ∀ p, p < nP a → (gI h3 (if who = 1 then 78 else 79) p).toInt = svX a w who Y p := fun p hp => by rw [F3.1.1 _ p (n78 p)]; exact s2 p hp
  -- what is behind: the next plan
  have nextP : ∀ (h4 : Hp) (fnd' : Int32), Fq (fun o k => o == 83 && ownB (mnA a) who k) h3 h4 → WS a w who o4 (l ++ [Y]) fnd' h4 → Game_nextPlan (nI who) h4 (fun r11 h12 => ∀ v13 : Int32, v13 = (nI l.length + 1) → Game_weighPlans_L25 o4 (nI who) Q n r11 fnd' v13 h12) := by
    intro h4 fnd' F4 W4
    have V4 := SV_k V3 F4 (fun o k hh => by simp only [Bool.and_eq_false_iff, beq_eq_false_iff_ne]; omega)
    have F4' : Fq (oWP a o4 who) h0 h4 := F3'.tr (F4.mo oWP_83)
    have FL4 : FLg a w h4 := fun p hp => by
      rw [F4'.1.1 81 p (by simp only [oWP, Bool.or_eq_false_iff, Bool.and_eq_false_iff, decide_eq_false_iff_not, beq_eq_false_iff_ne]; omega)]
      exact FL p hp
    refine c_nextPlan O V4 FL4 hwho hY (fun h5 F5 V5 => ?_)
    rintro _ rfl
    rw [nI_1]
    refine k h5 fnd' (F4'.tr (F5.mo oWP_74)) ?_ V5
    have e82 : ∀ p, gI h5 82 p = gI h4 82 p := fun p => F5.1.1 82 p rfl
    have e83 : ∀ p, gI h5 83 p = gI h4 83 p := fun p => F5.1.1 83 p rfl
    have e4 : ∀ p, gI h5 o4 p = gI h4 o4 p := fun p => F5.1.1 o4 p (by rcases ho with rfl | rfl <;> rfl)
    unfold WS at W4 ⊢
    simp only [e82, e83, e4]
    exact W4
  -- the values and counts as they are now
  obtain ⟨v', hv'⟩ : ∃ v' : Nat → Int, ∀ p, (gI h3 82 p).toInt = v' p := ⟨_, fun _ => rfl⟩
  -- take up the branches
  have bran : ∀ r6 : Int32, ((r6 = 1 ∧ isBX a w who v' Y) ∨ (r6 = 0 ∧ ¬ isBX a w who v' Y)) → (∀ J87 : Hp → Prop, J87 = (fun h8 => ∀ J107 : Int32 → Hp → Prop, J107 = (fun s9 h10 => Game_nextPlan (nI who) h10 (fun r11 h12 => ∀ v13 : Int32, v13 = (nI l.length + 1) → Game_weighPlans_L25 o4 (nI who) Q n r11 s9 v13 h12)) → ∀ J102 : Hp → Prop, J102 = (fun h14 => J107 1 h14) → (¬ r6 = 0 → J102 h8) ∧ (r6 = 0 → ∀ J106 : Hp → Prop, J106 = (fun h15 => J107 0 h15) → (fnd = 0 → J106 h8) ∧ (¬ fnd = 0 → (¬ r = 0 → J106 h8) ∧ (r = 0 → J102 h8)))) → (r6 = 0 → J87 h3) ∧ (¬ r6 = 0 → ∀ J77 : Hp → Prop, J77 = (fun h16 => Game_keepPlan (nI who) h16 (fun h17 => J87 h17)) → (¬ r = 0 → J77 h3) ∧ (r = 0 → (¬ fnd = 0 → J87 h3) ∧ (fnd = 0 → J77 h3)))) := by
    intro r6 hr6 J87 e87
    subst e87
    -- all facts that the branches need
    obtain ⟨vb, cn, cs⟩ : VB a w who (l ++ [Y]) v' ∧ (∀ p, p < nP a → gI h3 o4 p = nI (cnX a w who (l ++ [Y]) v' p)) ∧ ((r = 1 ∧ ∀ X, X ∈ l → ¬ isBX a w who v' X) ∨ (r = 0 ∧ fnd = 0 ∧ ∀ X, X ∈ l → ¬ isBX a w who v' X) ∨ (r = 0 ∧ fnd = 1 ∧ ∃ X, FBX a w who v' (l ++ [Y]) X ∧ ∀ p, p < nP a → ownB (mnA a) who p = true → gI h3 83 p = nI (tw (low (X p))))) := by
      rcases W0 with ⟨rfl, _, z4⟩ | ⟨lne, v, vb, vals, fs⟩
      · have all : ∀ p, p < nP a → upP h2 o4 who (fun p => svX a w who Y p) p := fun p hp => Or.inl (by rw [k4]; exact z4 p hp)
        have vy : ∀ p, p < nP a → v' p = svX a w who Y p := fun p hp => by rw [← hv']; exact ((u p hp).1 (all p hp)).1
        refine ⟨fun p hp => ⟨fun X hX => ?_, Y, List.mem_cons_self, (vy p hp).symm⟩, fun p hp => ?_, Or.inl ⟨?_, fun X hX => by cases hX⟩⟩
        · rw [List.mem_singleton.mp hX, vy p hp]; exact btr_ir _ _
        · rw [((u p hp).1 (all p hp)).2, cn_s, if_pos (vy p hp).symm]; rfl
        · rcases r3 with ⟨e, _⟩ | ⟨_, z⟩
          · exact e
          · exact absurd (all 0 h1') (z 0 h1')
      · have cpos : ∀ p, p < nP a → ¬ gI h2 o4 p = 0 := fun p hp => by
          rw [k4, (vals p hp).2]
          have c1 := cn_pos (vb p hp).2
          have c2 := cn_le (a := a) (w := w) (who := who) (l := l) (v := v) (p := p)
          exact nI_ne0 (by omega) (by omega)
        have up : ∀ p, p < nP a → (upP h2 o4 who (fun p => svX a w who Y p) p ↔ btr who (svX a w who Y p) (v p)) := fun p hp => by
          unfold upP
          rw [k82, (vals p hp).1]
          exact ⟨fun h => h.resolve_left (cpos p hp), Or.inr⟩
        have v1 : ∀ p, p < nP a → (btr who (svX a w who Y p) (v p) → v' p = svX a w who Y p) ∧ (¬ btr who (svX a w who Y p) (v p) → v' p = v p) := fun p hp => by
          refine ⟨fun c => ?_, fun c => ?_⟩
          · rw [← hv']; exact ((u p hp).1 ((up p hp).mpr c)).1
          · rw [← hv', ((u p hp).2 (fun z => c ((up p hp).mp z))).1, k82]; exact (vals p hp).1
        refine ⟨vb_step vb v1, fun p hp => ?_, ?_⟩
        · by_cases c : btr who (svX a w who Y p) (v p)
          · rw [((u p hp).1 ((up p hp).mpr c)).2, cn_s, cn_0 (fun X hX e => (vb p hp).1 X hX (by rw [e, (v1 p hp).1 c]; exact c)), if_pos ((v1 p hp).1 c).symm]; rfl
          · obtain ⟨_, u2, u3⟩ := (u p hp).2 (fun z => c ((up p hp).mp z))
            rw [k82, (vals p hp).1, k4, (vals p hp).2] at u2 u3
            rw [cn_s, cn_v ((v1 p hp).2 c), (v1 p hp).2 c]
            by_cases d : svX a w who Y p = v p
            · rw [u2 d, if_pos d, nI_1]
            · rw [u3 d, if_neg d]; rfl
        · rcases r3 with ⟨e, p0, hp0, hu0⟩ | ⟨e, no⟩
          · refine Or.inl ⟨e, fun X hX hb => ?_⟩
            have c := (up p0 hp0).mp hu0
            have := hb p0 hp0
            refine (vb p0 hp0).1 X hX ?_
            rw [this, (v1 p0 hp0).1 c]; exact c
          · have vv : ∀ p, p < nP a → v' p = v p := fun p hp => (v1 p hp).2 (fun c => no p hp ((up p hp).mpr c))
            have ib : ∀ X, isBX a w who v' X ↔ isBX a w who v X := fun X => ⟨fun h p hp => (h p hp).trans (vv p hp), fun h p hp => (h p hp).trans (vv p hp).symm⟩
            rcases fs with ⟨f0, nb⟩ | ⟨f1, X, ⟨l1, l2, el, b1, b2⟩, ch⟩
            · exact Or.inr (Or.inl ⟨e, f0, fun X hX hb => nb X hX ((ib X).mp hb)⟩)
            · refine Or.inr (Or.inr ⟨e, f1, X, ⟨l1, l2 ++ [Y], by rw [el, List.append_assoc]; rfl, (ib X).mpr b1, fun Z hZ hb => b2 Z hZ ((ib Z).mp hb)⟩, fun p hp ho' => ?_⟩)
              rw [F3.1.1 83 p (n83 p), k83]
              exact ch p hp ho'
    have ws : ∀ (h4 : Hp) (f : Int32), Fq (fun o k => o == 83 && ownB (mnA a) who k) h3 h4 → ((f = 0 ∧ ∀ X, X ∈ l ++ [Y] → ¬ isBX a w who v' X) ∨ (f = 1 ∧ ∃ X, FBX a w who v' (l ++ [Y]) X ∧ ∀ p, p < nP a → ownB (mnA a) who p = true → gI h4 83 p = nI (tw (low (X p))))) → WS a w who o4 (l ++ [Y]) f h4 := by
      intro h4 f F4 hf
      refine Or.inr ⟨by simp, v', vb, fun p hp => ?_, hf⟩
      rw [F4.1.1 82 p rfl, F4.1.1 o4 p (by rcases ho with rfl | rfl <;> rfl)]
      exact ⟨hv' p, cn p hp⟩
    have keepY : isBX a w who v' Y → (∀ X, X ∈ l → ¬ isBX a w who v' X) → ∀ h4, Fq (fun o k => o == 83 && ownB (mnA a) who k) h3 h4 → (∀ p, p < nP a → ownB (mnA a) who p = true → gI h4 83 p = nI (tw (low (Y p)))) → WS a w who o4 (l ++ [Y]) 1 h4 := fun b nb h4 F4 hk => ws h4 1 F4 (Or.inr ⟨rfl, Y, ⟨l, [], rfl, b, nb⟩, hk⟩)
    have noneY : ¬ isBX a w who v' Y → (∀ X, X ∈ l → ¬ isBX a w who v' X) → WS a w who o4 (l ++ [Y]) 0 h3 := fun b nb => ws h3 0 (Fq.rf _ _) (Or.inl ⟨rfl, fun X hX => by
      rcases List.mem_append.mp hX with m | m
      · exact nb X m
      · rw [List.mem_singleton.mp m]; exact b⟩)
    rcases hr6 with ⟨rfl, b⟩ | ⟨rfl, b⟩
    · refine ⟨fun q => absurd q (by decide), fun _ => ?_⟩
      rintro J77 rfl
      have kp : (∀ X, X ∈ l → ¬ isBX a w who v' X) → Game_keepPlan (nI who) h3 (fun h17 => (fun h8 => ∀ J107 : Int32 → Hp → Prop, J107 = (fun s9 h10 => Game_nextPlan (nI who) h10 (fun r11 h12 => ∀ v13 : Int32, v13 = (nI l.length + 1) → Game_weighPlans_L25 o4 (nI who) Q n r11 s9 v13 h12)) → ∀ J102 : Hp → Prop, J102 = (fun h14 => J107 1 h14) → (¬ (1 : Int32) = 0 → J102 h8) ∧ ((1 : Int32) = 0 → ∀ J106 : Hp → Prop, J106 = (fun h15 => J107 0 h15) → (fnd = 0 → J106 h8) ∧ (¬ fnd = 0 → (¬ r = 0 → J106 h8) ∧ (r = 0 → J102 h8)))) h17) := fun nb => by
        refine c_keepPlan O V3 hwho hY (fun h4 F4 hk => ?_)
        rintro J107 rfl J102 rfl
        exact ⟨fun _ => nextP h4 1 F4 (keepY b nb h4 F4 hk), fun q => absurd q (by decide)⟩
      rcases cs with ⟨e1, nb⟩ | ⟨e1, e2, nb⟩ | ⟨e1, e2, X, fb, ch⟩
      · exact ⟨fun _ => kp nb, fun q => absurd q (by rw [e1]; decide)⟩
      · exact ⟨fun q => absurd e1 q, fun _ => ⟨fun q => absurd e2 q, fun _ => kp nb⟩⟩
      · refine ⟨fun q => absurd e1 q, fun _ => ⟨fun _ => ?_, fun q => absurd q (by rw [e2]; decide)⟩⟩
        rintro J107 rfl J102 rfl
        exact ⟨fun _ => nextP h3 1 (Fq.rf _ _) (ws h3 1 (Fq.rf _ _) (Or.inr ⟨rfl, X, fb, ch⟩)), fun q => absurd q (by decide)⟩
    · refine ⟨fun _ => ?_, fun q => absurd rfl q⟩
      rintro J107 rfl J102 rfl
      refine ⟨fun q => absurd rfl q, fun _ => ?_⟩
      rintro J106 rfl
      rcases cs with ⟨e1, nb⟩ | ⟨e1, e2, nb⟩ | ⟨e1, e2, X, fb, ch⟩
      · exact ⟨fun _ => nextP h3 0 (Fq.rf _ _) (noneY b nb), fun _ => ⟨fun _ => nextP h3 0 (Fq.rf _ _) (noneY b nb), fun q => absurd q (by rw [e1]; decide)⟩⟩
      · exact ⟨fun _ => nextP h3 0 (Fq.rf _ _) (noneY b nb), fun q => absurd e2 q⟩
      · exact ⟨fun q => absurd q (by rw [e2]; decide), fun _ => ⟨fun q => absurd e1 q, fun _ => nextP h3 1 (Fq.rf _ _) (ws h3 1 (Fq.rf _ _) (Or.inr ⟨rfl, X, fb, ch⟩))⟩⟩
  exact c_isBest O V3.1 hwho s3 (fun b => bran 1 (Or.inl ⟨rfl, fun p hp => (b p hp).trans (hv' p)⟩)) (fun b => bran 0 (Or.inr ⟨rfl, fun z => b (fun p hp => (z p hp).trans (hv' p).symm)⟩))
theorem c_weighLoop {a : Row} {w who o4 : Nat} {Q : Hp → Prop} (O : LandOK a) (hw : w < 10) (hwho : who < 2) (ho : o4 = 84 ∨ o4 = 85) {Zf : Nat → Nat} : ∀ (rest done : List (Nat → Nat)) (Y : Nat → Nat) (fnd : Int32) (h0 : Hp), chT (nxt (ownB (mnA a) who) (wys a w) (nP a) 0) (Y :: rest) (Zf, false) → (∀ X, X ∈ Y :: rest → XOK a w X ∧ ∀ p, p < nP a → ownB (mnA a) who p = true → ∃ e, wayOK a w p e ∧ X p = 2 ^ e) → done.length + (rest.length + 1) ≤ 324 → SV a w Y h0 → FLg a w h0 → WS a w who o4 done fnd h0 → (∀ h1 fnd', Fq (oWP a o4 who) h0 h1 → WS a w who o4 (done ++ Y :: rest) fnd' h1 → Q h1) → Game_weighPlans_L25 o4 (nI who) Q (rest.length + 2) 1 fnd (nI done.length) h0 := by
  intro rest
  induction rest with
  | nil =>
    intro done Y fnd h0 hc hX hl V0 FL W0 k
    have hX := hX Y List.mem_cons_self
    refine c_weighStep O hw hwho ho (by have : done.length + (0 + 1) ≤ 324 := hl; omega) rfl hX.1 hX.2 V0 FL W0 (fun h1 fnd' F1 W1 V1 => ?_)
    have hc : nxt (ownB (mnA a) who) (wys a w) (nP a) 0 Y = (Zf, false) := hc
    rw [hc, if_neg Bool.false_ne_true]
    unfold Game_weighPlans_L25
    exact ⟨fun _ => k h1 fnd' F1 W1, fun _ => brT rfl (k h1 fnd' F1 W1)⟩
  | cons Z rest ih =>
    intro done Y fnd h0 hc hX hl V0 FL W0 k
    have hY := hX Y List.mem_cons_self
    obtain ⟨hc1, hc2⟩ := hc
    have hl : done.length + (rest.length + 1 + 1) ≤ 324 := hl
    refine c_weighStep (n := rest.length + 2) O hw hwho ho (by omega) rfl hY.1 hY.2 V0 FL W0 (fun h1 fnd' F1 W1 V1 => ?_)
    rw [hc1] at V1 ⊢
    rw [if_pos rfl]
    have ld : (done ++ [Y]).length = done.length + 1 := by rw [List.length_append]; rfl
    have FL1 : FLg a w h1 := fun p hp => by
      rw [F1.1.1 81 p (by simp only [oWP, Bool.or_eq_false_iff, Bool.and_eq_false_iff, decide_eq_false_iff_not, beq_eq_false_iff_ne]; omega)]
      exact FL p hp
    have := ih (done ++ [Y]) Z fnd' h1 hc2 (fun X hx => hX X (List.mem_cons_of_mem _ hx)) (by rw [ld]; omega) V1 FL1 W1 (fun h2 f2 F2 W2 => k h2 f2 (F1.tr F2) (by rw [List.append_assoc] at W2; exact W2))
    rw [ld] at this
    exact this
theorem fsX_eq (own : Nat → Bool) (A : Nat → Nat) : ∀ {k p q : Nat} {X : Nat → Nat}, fsX own A k p X q = if p ≤ q ∧ q < p + k ∧ own q = true then 2 ^ low (A q) else X q
  | 0, p, q, X => by rw [if_neg (by omega)]; rfl
  | k + 1, p, q, X => by
    show (if own p = true then fsX own A k (p + 1) (upX X p (2 ^ low (A p))) else fsX own A k (p + 1) X) q = _
    by_cases c : own p = true
    · rw [if_pos c, fsX_eq own A]
      by_cases d : q = p
      · subst d
        rw [if_neg (by omega), upX_s, if_pos ⟨by omega, by omega, c⟩]
      · by_cases f : p + 1 ≤ q ∧ q < p + 1 + k ∧ own q = true
        · rw [if_pos f, if_pos ⟨by omega, by omega, f.2.2⟩]
        · rw [if_neg f, upX_n d, if_neg (fun z => f ⟨by omega, by omega, z.2.2⟩)]
    · rw [if_neg c, fsX_eq own A]
      by_cases d : q = p
      · subst d
        rw [if_neg (by omega), if_neg (fun z => c z.2.2)]
      · by_cases f : p + 1 ≤ q ∧ q < p + 1 + k ∧ own q = true
        · rw [if_pos f, if_pos ⟨by omega, by omega, f.2.2⟩]
        · rw [if_neg f, if_neg (fun z => f ⟨by omega, by omega, z.2.2⟩)]
theorem c_firstPlan {a : Row} {w : Nat} {h0 : Hp} {Q : Hp → Prop} {who : Nat} (O : LandOK a) (V0 : SV a w (wys a w) h0) (FL : FLg a w h0) (hwho : who < 2) (k : ∀ h1, Fq (fun o _ => o == 74) h0 h1 → SV a w (fsX (ownB (mnA a) who) (wys a w) (nP a) 0 (wys a w)) h1 → Q h1) : Game_firstPlan (nI who) h0 Q := by
  have h8 := O.1.2.1
  obtain ⟨T, hT⟩ : ∃ T : Nat → Nat, ∀ p, T p = if p < nP a ∧ ownB (mnA a) who p = true then 2 ^ low (wys a w p) else wys a w p := ⟨_, fun _ => rfl⟩
  have eT : fsX (ownB (mnA a) who) (wys a w) (nP a) 0 (wys a w) = T := funext (fun q => by
    rw [fsX_eq, hT]
    by_cases c : q < nP a ∧ ownB (mnA a) who q = true
    · rw [if_pos ⟨by omega, by omega, c.2⟩, if_pos c]
    · rw [if_neg (fun z => c ⟨by omega, z.2.2⟩), if_neg c])
  rw [eT] at k
  unfold Game_firstPlan
  refine pk_loop (σ := Hp) (fun n i h => Game_firstPlan_L3 (nI who) Q n (nI i) h) (fun i h => Fq (fun o _ => o == 74) h0 h ∧ ∀ p, p < nP a → gI h 74 p = if p < i then nI (CX a w T p) else nI (CX a w (wys a w) p)) (nP a) 0 h0 (by omega) ⟨Fq.rf _ _, fun p hp => by rw [if_neg (by omega)]; exact V0.2.2.2 p hp⟩ (fun n h1 J => ?_) (fun n i h hi J hk => ?_)
  · obtain ⟨F, j⟩ := J
    have L1 : Lnd h1 a := Lnd_k V0.1 (fun o j h1 h2 => F.1.1 o j (by rw [beq_eq_false_iff_ne]; omega))
    unfold Game_firstPlan_L3
    rw [L1.1, O.1.2.2]
    exact pk_le (nP a) (nP a) (fun _ => k h1 F ⟨L1, (F.2 2).trans V0.2.1, (F.1.1 73 1 rfl).trans V0.2.2.1, fun p hp => by rw [j p hp, if_pos hp]⟩) (fun c => absurd c (by omega))
  · obtain ⟨F, j⟩ := J
    have L1 : Lnd h a := Lnd_k V0.1 (fun o j h1 h2 => F.1.1 o j (by rw [beq_eq_false_iff_ne]; omega))
    unfold Game_firstPlan_L3
    rw [L1.1, O.1.2.2]
    refine pk_le (nP a) i (fun c => absurd c (by omega)) (fun _ => pk_le 8 i (fun c => absurd c (by omega)) (fun _ => pk_le 8 i (fun c => absurd c (by omega)) (fun _ => c_own L1 O (by omega) ?_)))
    rintro J53 rfl
    rw [own_i hwho]
    refine ⟨fun c => ?_, fun c => ⟨pk_in i 8 (by omega), ?_⟩⟩
    · rintro _ rfl
      rw [nI_1 i]
      refine hk h ⟨F, fun p hp => ?_⟩
      rw [j p hp]
      by_cases d : p = i
      · subst d
        have tp : T p = wys a w p := by rw [hT, if_neg (fun z => c z.2)]
        rw [if_neg (by omega), if_pos (by omega)]
        unfold CX
        rw [tp]
      · by_cases d2 : p < i
        · rw [if_pos d2, if_pos (by omega)]
        · rw [if_neg d2, if_neg (by omega)]
    · have f81 : gI h 81 i = nI (cwy a w i) := (F.1.1 81 i rfl).trans (FL i hi)
      have lk := low_ok O (w := w) (p := i) (by omega)
      have lc := low_cwy O (w := w) (p := i) (by omega)
      have cz : cwy a w i ≠ 0 := by unfold cwy; split <;> first | decide | assumption
      obtain ⟨q1, q2, q3⟩ := low_nz cz (cwy_lt O w i) (by decide)
      rw [lc] at q1 q2 q3
      rw [cl i, f81]
      refine j_lob (by have := cwy_lt O w i; omega) q2 q3 ⟨pk_in i 8 (by omega), ?_⟩
      rintro _ rfl _ rfl
      rw [nI_1 i]
      refine hk _ ⟨Fq.sI F rfl, fun p hp => ?_⟩
      by_cases d : p = i
      · subst d
        rw [sI_s, if_pos (by omega), CX_own lk (by rw [hT, if_pos ⟨hp, c⟩])]
      · rw [sI_k d, j p hp]
        by_cases d2 : p < i
        · rw [if_pos d2, if_pos (by omega)]
        · rw [if_neg d2, if_neg (by omega)]
theorem PLX_way {a : Row} (O : LandOK a) {w who : Nat} {X : Nat → Nat} (h : X ∈ PLXA a w who) : XOK a w X ∧ ∀ p, p < nP a → ownB (mnA a) who p = true → ∃ e, wayOK a w p e ∧ X p = 2 ^ e := by
  refine ⟨PLX_ok O h, fun p hp ho => ?_⟩
  obtain ⟨e, h1, _, h3⟩ := PLX_own h hp ho
  exact ⟨e, (wys_tb O).mp h1, h3⟩
theorem c_weighPlans {a : Row} {w who o4 : Nat} {Q : Hp → Prop} {h0 : Hp} (O : LandOK a) (hw : w < 10) (hwho : who < 2) (ho : o4 = 84 ∨ o4 = 85) (V0 : SV a w (wys a w) h0) (FL : FLg a w h0) (k : ∀ h1 fnd, Fq (oWP a o4 who) h0 h1 → WS a w who o4 (PLXA a w who) fnd h1 → Q h1) : Game_weighPlans (nI who) o4 h0 Q := by
  have h8 := O.1.2.1
  have al : alen o4 = 8 := by rcases ho with rfl | rfl <;> rfl
  have hA : ∀ q, q < nP a → wys a w q ≠ 0 ∧ wys a w q < 2 ^ 24 := fun q hq => ⟨(wys_lt O (by omega)).2, (wys_lt O (by omega)).1⟩
  unfold Game_weighPlans
  refine c_firstPlan O V0 FL hwho (fun h1 F1 V1 => j_fillq (n := 8) al (by omega) (fun h2 F2 z2 => ⟨?_, ?_⟩))
  · exact (PLXA a w who).length + 1
  · obtain ⟨t, ht⟩ := plx_hd (ownB (mnA a) who) (wys a w) hA (k := nP a) (p := 0) (X := wys a w) (by omega)
    have hc := plx_ch (ownB (mnA a) who) (wys a w) hA (k := nP a) (p := 0) (X := wys a w) (by omega)
    have hl := PLX_len O w who
    have et : PLXA a w who = fsX (ownB (mnA a) who) (wys a w) (nP a) 0 (wys a w) :: t := ht
    rw [ht] at hc
    have F12 : Fq (oWP a o4 who) h0 h2 := (F1.mo oWP_74).tr (F2.mo (fun o k h => by
      simp only [oWP, Bool.or_eq_false_iff] at h; exact h.1.2))
    have V2 := SV_k V1 F2 (fun o k h => by rw [beq_eq_false_iff_ne]; omega)
    have FL2 : FLg a w h2 := fun p hp => by
      rw [F12.1.1 81 p (by simp only [oWP, Bool.or_eq_false_iff, Bool.and_eq_false_iff, decide_eq_false_iff_not, beq_eq_false_iff_ne]; omega)]
      exact FL p hp
    rw [et] at hl k ⊢
    have := c_weighLoop (Q := Q) O hw hwho ho t [] _ 0 h2 hc (fun X hX => PLX_way O (show X ∈ PLXA a w who by rw [et]; exact hX)) (by have : t.length + 1 ≤ 324 := hl; show 0 + (t.length + 1) ≤ 324; omega) V2 FL2 (Or.inl ⟨rfl, rfl, fun p hp => z2 p (by omega)⟩) (fun h3 f3 F3 W3 => k h3 f3 (F12.tr F3) W3)
    exact this
