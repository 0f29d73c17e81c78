theorem cC_31 (a : Row) (w t : Nat) {n : Nat} (hn : n ≤ 6) : (∀ p s, cC a w t n p s < 2 ^ 31) ∧ ∀ s, smN (fun p => cC a w t n p s) 8 < 2 ^ 31 := by
  have b := p17 hn
  refine ⟨fun p s => by have := cC_bd a w t n p s; omega, fun s => ?_⟩
  have : smN (fun p => cC a w t n p s) 8 ≤ 8 * 17 ^ n := smN_le (fun p _ => cC_bd a w t n p s)
  omega
theorem gB_255 (c : Nat → Int → Nat) (s : Int) : gB 255 c s = smN (fun p => c p s) 8 := by
  have b : ∀ p, p < 8 → (255 : Nat).testBit p = true := by decide
  exact smN_ext (fun p hp => if_pos (b p hp))
theorem gB_p (c : Nat → Int → Nat) (s : Int) {p : Nat} (hp : p < 8) : gB (2 ^ p) c s = c p s := by
  unfold gB
  rw [smN_one (f := fun q => if Nat.testBit (2 ^ p) q = true then c q s else 0) hp (fun q hq hn => if_neg (fun e => by rw [Nat.testBit_two_pow] at e; exact hn (of_decide_eq_true e).symm)), if_pos (by rw [Nat.testBit_two_pow]; exact decide_eq_true rfl)]
theorem sim_sums {B : Int} {x : Int32} : Sim B B (C_sums x) (M_sums x) := by
  intro h K I k
  obtain ⟨O, L⟩ : iLand h := I.1
  have h8 := O.1.2.1
  obtain ⟨w, t, hw, ht, ew, et, e0, e3⟩ := rowsAll I
  by_cases hx : ∃ n, n ≤ 6 ∧ x = nI n
  · obtain ⟨n, hn, rfl⟩ := hx
    have cz := fun p s => cC_z O (w := w) ht n p s
    have sup := fun p s => cC_sup (rowM h) w t n p s
    obtain ⟨cb1, cb2⟩ := cC_31 (rowM h) w t hn
    obtain ⟨g, hg⟩ : ∃ g : Int → Nat, ∀ s, in1 (smN (fun p => cC (rowM h) w t n p s) 8) = g s := ⟨_, fun _ => rfl⟩
    have gz : ∀ s, (∀ p, p < 8 → cC (rowM h) w t n p s = 0) → g s = 0 := fun s z => by
      rw [← hg, smN_z (f := fun p => cC (rowM h) w t n p s) z]; rfl
    refine sim_q I k (nI (smN (fun i => g (-2000 + (i : Int))) 4000)) (fun Q hQ => ?_) (fun h1 Q I1 eR f1 hQ => ?_)
    · unfold C_sums
      refine c_isRow (fun m hm em => brF' (by decide) (c_countRows L O hw (by omega) hn e0 e3 (fun h1 l s f1 T b1 b2 b3 b4 => ?_))) (fun q => absurd ⟨n, hn, rfl⟩ q)
      have fin := hQ h1 (f1.mo scD_S)
      rw [win l s ⟨by omega, by omega⟩ (fun s hs => gz s (fun p hp => T.2.2.2 p s hp hs))] at fin
      refine c_unlike (b := 255) T b4 (by omega) cb1 ?_
      rw [show (fun j : Nat => in1 (gB 255 (cC (rowM h) w t n) (l + (j : Int)))) = (fun i : Nat => g (l + (i : Int))) from funext (fun j => by rw [gB_255, hg])]
      exact fin
    · unfold M_sums
      rintro _ rfl
      refine m_isRow (fun m hm em => brF' (by decide) ?_) (fun q => absurd ⟨n, hn, rfl⟩ q)
      refine m_laysRows (a := rowM h) O (fun j => by rw [sI_o (by decide)]; exact f1.1 99 j rfl) ew ht et hn (fun h2 f2 g2 e121 => ?_)
      have fin := hQ h2 (FpThr.tr f2)
      rw [win (-594) 1189 ⟨by omega, by omega⟩ (fun s hs => gz s (fun p hp => sup p s (by omega)))] at fin
      refine m_sums O (g2 1) e121 cz cb2 ?_
      rw [show (fun u : Nat => in1 (smN (fun p => cC (rowM h) w t n p (-594 + (u : Int))) 8)) = (fun i : Nat => g (-594 + (i : Int))) from funext (fun j => by rw [hg])]
      exact fin
  · refine sim_q I k (-3) (fun Q hQ => ?_) (fun h1 Q I1 eR f1 hQ => ?_)
    · unfold C_sums
      exact c_isRow (fun m hm em => absurd ⟨m, hm, em⟩ hx) (fun _ => brT' rfl (hQ h (Fp.rf _ h)))
    · unfold M_sums
      rintro _ rfl
      exact m_isRow (fun m hm em => absurd ⟨m, hm, em⟩ hx) (fun _ => brT' rfl (hQ _ FpThr))
theorem sim_sumsAt {B : Int} {y x : Int32} : Sim B B (C_sumsAt y x) (M_sumsAt y x) := by
  intro h K I k
  obtain ⟨O, L⟩ : iLand h := I.1
  have h8 := O.1.2.1
  obtain ⟨w, t, hw, ht, ew, et, e0, e3⟩ := rowsAll I
  by_cases hy : ∃ p, p < nP (rowM h) ∧ y = nI p
  · obtain ⟨p, hp, rfl⟩ := hy
    by_cases hx : ∃ n, n ≤ 6 ∧ x = nI n
    · obtain ⟨n, hn, rfl⟩ := hx
      have sup := fun p s => cC_sup (rowM h) w t n p s
      obtain ⟨cb1, cb2⟩ := cC_31 (rowM h) w t hn
      obtain ⟨g, hg⟩ : ∃ g : Int → Nat, ∀ s, in1 (cC (rowM h) w t n p s) = g s := ⟨_, fun _ => rfl⟩
      have gz : ∀ s, cC (rowM h) w t n p s = 0 → g s = 0 := fun s z => by
        rw [← hg, z]; rfl
      refine sim_q I k (nI (smN (fun i => g (-2000 + (i : Int))) 4000)) (fun Q hQ => ?_) (fun h1 Q I1 eR f1 hQ => ?_)
      · unfold C_sumsAt
        refine c_plY L O hp (brF' (by decide) (c_isRow (fun m hm em => brF' (by decide) (c_countRows L O hw (by omega) hn e0 e3 (fun h1 l s f1 T b1 b2 b3 b4 => ?_))) (fun q => absurd ⟨n, hn, rfl⟩ q)))
        have fin := hQ h1 (f1.mo scD_S)
        rw [win l s ⟨by omega, by omega⟩ (fun s hs => gz s (T.2.2.2 p s (by omega) hs))] at fin
        rw [z_1 p (by omega)]
        refine c_unlike T b4 (Nat.lt_of_lt_of_le (Nat.pow_lt_pow_right (by omega) (show p < 8 by omega)) (by decide)) cb1 ?_
        rw [show (fun j : Nat => in1 (gB (2 ^ p) (cC (rowM h) w t n) (l + (j : Int)))) = (fun i : Nat => g (l + (i : Int))) from funext (fun j => by rw [gB_p _ _ (by omega), hg])]
        exact fin
      · unfold M_sumsAt
        rintro _ rfl
        refine m_plY (a := rowM h) (by rw [sI_o (by decide)]; exact f1.1 99 1 rfl) O hp (brF' (by decide) (m_isRow (fun m hm em => brF' (by decide) ?_) (fun q => absurd ⟨n, hn, rfl⟩ q)))
        refine m_laysRows (a := rowM h) O (fun j => by rw [sI_o (by decide)]; exact f1.1 99 j rfl) ew ht et hn (fun h2 f2 g2 e121 => ?_)
        have fin := hQ h2 (FpThr.tr f2)
        rw [win (-594) 1189 ⟨by omega, by omega⟩ (fun s hs => gz s (sup p s (by omega)))] at fin
        refine m_sumsAt (by omega) e121 cb1 ?_
        rw [show (fun u : Nat => in1 (cC (rowM h) w t n p (-594 + (u : Int)))) = (fun i : Nat => g (-594 + (i : Int))) from funext (fun j => by rw [hg])]
        exact fin
    · refine sim_q I k (-3) (fun Q hQ => ?_) (fun h1 Q I1 eR f1 hQ => ?_)
      · unfold C_sumsAt
        exact c_plY L O hp (brF' (by decide) (c_isRow (fun m hm em => absurd ⟨m, hm, em⟩ hx) (fun _ => brT' rfl (hQ h (Fp.rf _ h)))))
      · unfold M_sumsAt
        rintro _ rfl
        exact m_plY (a := rowM h) (by rw [sI_o (by decide)]; exact f1.1 99 1 rfl) O hp (brF' (by decide) (m_isRow (fun m hm em => absurd ⟨m, hm, em⟩ hx) (fun _ => brT' rfl (hQ _ FpThr))))
  · refine sim_q I k (-2) (fun Q hQ => ?_) (fun h1 Q I1 eR f1 hQ => ?_)
    · unfold C_sumsAt
      exact c_plN L O hy (brT' rfl (hQ h (Fp.rf _ h)))
    · unfold M_sumsAt
      rintro _ rfl
      exact m_plNi (a := rowM h) (by rw [sI_o (by decide)]; exact f1.1 99 1 rfl) O hy (brT' rfl (hQ _ FpThr))
