/-! a law's line, read by the class: from its colon on -/
def cl0 : Rs → Rs
  | .inl p => .inl (p.1, [])
  | .inr x => .inr x
theorem cl0_ok {b : Nat → Nat} {n : Nat} {r : Rs} (K : ROK b n r) : ROK b n (cl0 r) := by
  rcases r with p | y
  · exact ⟨K.1, Nat.zero_le _⟩
  · exact K
theorem CSr_0 {q : Nat} {b : Nat → Nat} {n : Nat} {h : Hp} {r : Rs} {x : Option Nat} (hq : q = 4 ∨ q = 7) (S : CSr 4 b n h r) : CSr q b n (sI (sR h 1 x) q 3 0) (cl0 r) := by
  have q2 : 2 ≠ q := by rcases hq with rfl | rfl <;> decide
  have q3 : 3 ≠ q := by rcases hq with rfl | rfl <;> decide
  rcases r with p | y
  · obtain ⟨s1, s2, s3, s4, s5⟩ := S
    exact ⟨by rw [sI_o q2]; exact s1, CT_o (h := sR h 1 x) s2 q3, by rw [sI_s]; rfl, fun i hi => absurd hi (by simp), by rw [sI_o q2]; exact s5⟩
  · obtain ⟨s1, s2, m, t, s3, s4, s5, s6⟩ := S
    exact ⟨by rw [sI_o q2]; exact s1, by rw [sI_o q2]; exact s2, 0, t, by omega, by rw [sI_s]; rfl, s5, CT_o (h := sR h 1 x) s6 q3⟩
theorem r_law {q w : Nat} {b : Nat → Nat} {n : Nat} {h : Hp} {r : Rs} {J : Hp → Prop} (hq : q = 4 ∨ q = 7) (hw : w = 3 ∨ w = 5) (B : TpB b n) (T : TpC h b n) (K : ROK b n r) (S : CSr 4 b n h r) (k : ∀ h4 h5 r1, Fp (fun o k => cF 4 o k || (o == q && k == 3)) h h4 → TpC h4 b n → (q = 7 → CSr 4 b n h4 (exR b n 31 r)) → Rl b n w 0 (cl0 (exR b n 31 r)) r1 → CS q b n h4 h5 r1 → J h5) : Reader_beginLaw q h (fun h12 => Reader_cyc 64 w 0 h12 (fun h13 => J h13)) := by
  have W : CW 4 b n h := ⟨B, T, Or.inl rfl⟩
  have S0 : CS 4 b n h h r := ⟨Fq.rf _ _, S⟩
  unfold Reader_beginLaw
  refine r_expect W K S0 (by omega) (by omega) (fun h1 S1 => ⟨rfl, ?_⟩)
  rintro _ rfl
  refine ⟨q, by rw [gR_sR, if_pos rfl], (q_SH hq).1, ?_⟩
  intro h4 g4
  have S1 : CS 4 b n h h1 (exR b n 31 r) := S1
  have F4 : Fp (fun o k => cF 4 o k || (o == q && k == 3)) h h4 := by
    rw [g4]
    refine Fp.sI (h1 := sR h1 1 (some q)) ?_ (by simp)
    have F := S1.1.1.mo (T := fun o k => cF 4 o k || (o == q && k == 3)) (fun o k hh => by
      simp only [Bool.or_eq_false_iff] at hh
      exact hh.1)
    exact ⟨fun o k hh => F.1 o k hh, fun o k hh => F.2 o k hh⟩
  have q1 : 1 ≠ q := by rcases hq with rfl | rfl <;> decide
  have q3 : 3 ≠ q := by rcases hq with rfl | rfl <;> decide
  have T1 := CS_T W S1
  have T4 : TpC h4 b n := by
    rw [g4]
    exact TpC_o (h := sR h1 1 (some q)) ⟨by rw [gR_sR, if_neg (by decide)]; exact T1.1, T1.2.1, T1.2.2⟩ q1 q3
  have G4 : gR h4 1 = some q := by
    rw [g4]
    show gR (sR h1 1 (some q)) 1 = some q
    rw [gR_sR, if_pos rfl]
  have S4 : CS q b n h4 h4 (cl0 (exR b n 31 r)) := ⟨Fq.rf _ _, by rw [g4]; exact CSr_0 hq S1.2⟩
  have C4 : q = 7 → CSr 4 b n h4 (exR b n 31 r) := by
    rintro rfl
    rw [g4]
    exact CSr_o (h := sR h1 1 (some 7)) S1.2 (by decide) (by decide) (by decide) (by decide)
  have n0 : ndC w 0 ≤ 64 := by rcases hw with rfl | rfl <;> decide
  exact r_cyc (q := q) ⟨B, T4, hq⟩ G4 64 w 0 (by omega) (by omega) n0 h4 _ _ (cl0_ok (ex_iv K).1) S4 (fun h5 r1 R1 S5 => k h4 h5 r1 F4 T4 C4 R1 S5)
