/-! other codes laid under go with every step -/
def puC (L : List Nat) : Rs → Rs
  | .inl p => .inl (p.1, L)
  | .inr x => .inr x
theorem puC_kd (L : List Nat) (r : Rs) : kdR (puC L r) = kdR r := by rcases r with p | y <;> rfl
theorem puC_vl (L : List Nat) (r : Rs) : vlR (puC L r) = vlR r := by rcases r with p | y <;> rfl
theorem puC_nx (L : List Nat) (b : Nat → Nat) (n : Nat) (r : Rs) : puC L (nxR b n r) = nxR b n (puC L r) := by rcases r with p | y <;> rfl
theorem puC_fl (L : List Nat) (k : Nat) (r : Rs) : puC L (flR k r) = flR k (puC L r) := by rcases r with p | y <;> rfl
theorem puC_ex (L : List Nat) (b : Nat → Nat) (n k : Nat) (r : Rs) : puC L (exR b n k r) = exR b n k (puC L r) := by
  unfold exR
  rw [puC_kd]
  by_cases c : kdR r = k
  · rw [if_pos c, if_pos c, puC_nx]
  · rw [if_neg c, if_neg c, puC_fl]
theorem puC_nm (L : List Nat) (b : Nat → Nat) (n lim : Nat) (r : Rs) : puC L (nmR b n lim r) = nmR b n lim (puC L r) := by
  rcases r with p | y
  · show puC L (nmR b n lim (.inl p)) = nmR b n lim (.inl (p.1, L))
    by_cases c : p.1.2.2.1 = 23
    · by_cases d : p.1.2.2.2 < lim
      · rw [nm_1 c d, nm_1 (p := (p.1, L)) c d]; rfl
      · rw [nm_2 c d, nm_2 (p := (p.1, L)) c d]; rfl
    · rw [nm_3 c, nm_3 (p := (p.1, L)) c]; rfl
  · rfl
theorem puC_pl (L : List Nat) (b : Nat → Nat) (n np : Nat) (r : Rs) : puC L (plR b n np r) = plR b n np (puC L r) ∧ plM b n (puC L r) = plM b n r := by
  refine ⟨?_, by unfold plM; rw [← puC_nx, puC_kd]⟩
  unfold plR
  rw [← puC_nx, puC_kd]
  by_cases c : np < 8
  · rw [if_pos c, if_pos c]
    by_cases d : kdR (nxR b n r) = 3
    · rw [if_pos d, if_pos d, puC_nx]
    · rw [if_neg d, if_neg d, puC_ex]
  · rw [if_neg c, if_neg c, puC_fl]
theorem puC_rd4 (L : List Nat) (b : Nat → Nat) (n np : Nat) (r : Rs) : puC L (rd4 b n np r) = rd4 b n np (puC L r) := by
  unfold rd4
  rw [puC_nm, puC_nm, puC_nx]
theorem puC_rd5 (L : List Nat) (b : Nat → Nat) (n np : Nat) (r : Rs) : puC L (rd5 b n np r) = rd5 b n np (puC L r) := by
  unfold rd5
  rw [← puC_rd4, puC_kd]
  by_cases d : kdR (rd4 b n np r) = 6
  · rw [if_pos d, if_pos d, puC_nx]
  · rw [if_neg d, if_neg d, puC_ex]
theorem puC_rd (L : List Nat) (b : Nat → Nat) (n np nr : Nat) (r : Rs) : puC L (rdR b n np nr r) = rdR b n np nr (puC L r) ∧ rdG b n np (puC L r) = rdG b n np r := by
  refine ⟨?_, by unfold rdG; rw [← puC_rd4, puC_kd, ← puC_rd5, puC_vl]⟩
  unfold rdR
  by_cases c : nr < 16
  · rw [if_pos c, if_pos c, puC_nm, puC_rd5]
  · rw [if_neg c, if_neg c, puC_fl]
