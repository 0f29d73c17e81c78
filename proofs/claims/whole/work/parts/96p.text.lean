/-! emptying the codes goes with every step -/
theorem cl0_kd (r : Rs) : kdR (cl0 r) = kdR r := by rcases r with p | y <;> rfl
theorem cl0_vl (r : Rs) : vlR (cl0 r) = vlR r := by rcases r with p | y <;> rfl
theorem cl0_nx (b : Nat → Nat) (n : Nat) (r : Rs) : cl0 (nxR b n r) = nxR b n (cl0 r) := by rcases r with p | y <;> rfl
theorem cl0_fl (k : Nat) (r : Rs) : cl0 (flR k r) = flR k (cl0 r) := by rcases r with p | y <;> rfl
theorem cl0_ex (b : Nat → Nat) (n k : Nat) (r : Rs) : cl0 (exR b n k r) = exR b n k (cl0 r) := by
  unfold exR
  rw [cl0_kd]
  by_cases c : kdR r = k
  · rw [if_pos c, if_pos c, cl0_nx]
  · rw [if_neg c, if_neg c, cl0_fl]
theorem cl0_nm (b : Nat → Nat) (n lim : Nat) (r : Rs) : cl0 (nmR b n lim r) = nmR b n lim (cl0 r) := by
  rcases r with p | y
  · show cl0 (nmR b n lim (.inl p)) = nmR b n lim (.inl (p.1, []))
    by_cases c : p.1.2.2.1 = 23
    · by_cases d : p.1.2.2.2 < lim
      · rw [nm_1 c d, nm_1 (p := (p.1, [])) c d]; rfl
      · rw [nm_2 c d, nm_2 (p := (p.1, [])) c d]; rfl
    · rw [nm_3 c, nm_3 (p := (p.1, [])) c]; rfl
  · rfl
theorem cl0_pl (b : Nat → Nat) (n np : Nat) (r : Rs) : cl0 (plR b n np r) = plR b n np (cl0 r) ∧ plM b n (cl0 r) = plM b n r := by
  refine ⟨?_, by unfold plM; rw [← cl0_nx, cl0_kd]⟩
  unfold plR
  rw [← cl0_nx, cl0_kd]
  by_cases c : np < 8
  · rw [if_pos c, if_pos c]
    by_cases d : kdR (nxR b n r) = 3
    · rw [if_pos d, if_pos d, cl0_nx]
    · rw [if_neg d, if_neg d, cl0_ex]
  · rw [if_neg c, if_neg c, cl0_fl]
theorem cl0_rd4 (b : Nat → Nat) (n np : Nat) (r : Rs) : cl0 (rd4 b n np r) = rd4 b n np (cl0 r) := by
  unfold rd4
  rw [cl0_nm, cl0_nm, cl0_nx]
theorem cl0_rd5 (b : Nat → Nat) (n np : Nat) (r : Rs) : cl0 (rd5 b n np r) = rd5 b n np (cl0 r) := by
  unfold rd5
  rw [← cl0_rd4, cl0_kd]
  by_cases d : kdR (rd4 b n np r) = 6
  · rw [if_pos d, if_pos d, cl0_nx]
  · rw [if_neg d, if_neg d, cl0_ex]
theorem cl0_rd (b : Nat → Nat) (n np nr : Nat) (r : Rs) : cl0 (rdR b n np nr r) = rdR b n np nr (cl0 r) ∧ rdG b n np (cl0 r) = rdG b n np r := by
  refine ⟨?_, by unfold rdG; rw [← cl0_rd4, cl0_kd, ← cl0_rd5, cl0_vl]⟩
  unfold rdR
  by_cases c : nr < 16
  · rw [if_pos c, if_pos c, cl0_nm, cl0_rd5]
  · rw [if_neg c, if_neg c, cl0_fl]
