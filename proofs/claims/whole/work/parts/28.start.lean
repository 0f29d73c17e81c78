def adF (q : Nat) (u : S11) (p : Nat) (v : S12) : Nat → Nat
  | 0 => q
  | 1 => u.1
  | 2 => u.2.1.1
  | 3 => u.2.1.2.1.1
  | 4 => u.2.1.2.2.1.1
  | 5 => u.2.1.2.2.1.2.1
  | 6 => u.2.1.2.2.1.2.2
  | 7 => u.2.1.2.2.2.1.1
  | 8 => u.2.1.2.2.2.1.2.1
  | 9 => u.2.1.2.2.2.1.2.2
  | 10 => u.2.1.2.2.2.2.1
  | 11 => u.2.1.2.2.2.2.2.1
  | 12 => u.2.1.2.2.2.2.2.2.1
  | 13 => u.2.1.2.2.2.2.2.2.2
  | 14 => u.2.2.1.1
  | 15 => u.2.2.1.2.1
  | 16 => u.2.2.1.2.2.1
  | 17 => u.2.2.1.2.2.2.1
  | 18 => u.2.2.1.2.2.2.2.1
  | 19 => u.2.2.1.2.2.2.2.2
  | 20 => u.2.2.2.1.1
  | 21 => u.2.2.2.1.2
  | 22 => u.2.2.2.2.1.1
  | 23 => u.2.2.2.2.1.2
  | 24 => u.2.2.2.2.2.1.1
  | 25 => u.2.2.2.2.2.1.2.1
  | 26 => u.2.2.2.2.2.1.2.2.1.1
  | 27 => u.2.2.2.2.2.1.2.2.1.2
  | 28 => u.2.2.2.2.2.1.2.2.2.1.1
  | 29 => u.2.2.2.2.2.1.2.2.2.1.2
  | 30 => u.2.2.2.2.2.1.2.2.2.2.1.1
  | 31 => u.2.2.2.2.2.1.2.2.2.2.1.2
  | 32 => u.2.2.2.2.2.1.2.2.2.2.2.1.1
  | 33 => u.2.2.2.2.2.1.2.2.2.2.2.1.2
  | 34 => u.2.2.2.2.2.1.2.2.2.2.2.2.1.1
  | 35 => u.2.2.2.2.2.1.2.2.2.2.2.2.1.2
  | 36 => u.2.2.2.2.2.1.2.2.2.2.2.2.2.1.1
  | 37 => u.2.2.2.2.2.1.2.2.2.2.2.2.2.1.2
  | 38 => u.2.2.2.2.2.1.2.2.2.2.2.2.2.2.1.1
  | 39 => u.2.2.2.2.2.1.2.2.2.2.2.2.2.2.1.2
  | 40 => u.2.2.2.2.2.1.2.2.2.2.2.2.2.2.2.1.1
  | 41 => u.2.2.2.2.2.1.2.2.2.2.2.2.2.2.2.1.2
  | 42 => u.2.2.2.2.2.1.2.2.2.2.2.2.2.2.2.2.1.1
  | 43 => u.2.2.2.2.2.1.2.2.2.2.2.2.2.2.2.2.1.2
  | 44 => u.2.2.2.2.2.1.2.2.2.2.2.2.2.2.2.2.2.1
  | 45 => u.2.2.2.2.2.1.2.2.2.2.2.2.2.2.2.2.2.2
  | 46 => u.2.2.2.2.2.2.1
  | 47 => u.2.2.2.2.2.2.2.2.2.2.2.2.2.2.1.1
  | 48 => u.2.2.2.2.2.2.2.2.2.2.2.2.2.2.1.2
  | 49 => u.2.2.2.2.2.2.2.2.2.2.2.2.2.2.2.1.1
  | 50 => u.2.2.2.2.2.2.2.2.2.2.2.2.2.2.2.1.2
  | 51 => u.2.2.2.2.2.2.2.2.2.2.2.2.2.2.2.2.1.1
  | 52 => u.2.2.2.2.2.2.2.2.2.2.2.2.2.2.2.2.1.2
  | 53 => u.2.2.2.2.2.2.2.2.2.2.2.2.2.2.2.2.2.1.1
  | 54 => u.2.2.2.2.2.2.2.2.2.2.2.2.2.2.2.2.2.1.2
  | 55 => u.2.2.2.2.2.2.2.1
  | 56 => u.2.2.2.2.2.2.2.2.2.2.2.2.2.2.2.2.2.2.1.1
  | 57 => u.2.2.2.2.2.2.2.2.2.2.2.2.2.2.2.2.2.2.1.2.1
  | 58 => u.2.2.2.2.2.2.2.2.2.2.2.2.2.2.2.2.2.2.1.2.2.1
  | 59 => u.2.2.2.2.2.2.2.2.2.2.2.2.2.2.2.2.2.2.1.2.2.2.1
  | 60 => u.2.2.2.2.2.2.2.2.2.2.2.2.2.2.2.2.2.2.1.2.2.2.2.1
  | 61 => u.2.2.2.2.2.2.2.2.2.2.2.2.2.2.2.2.2.2.1.2.2.2.2.2
  | 62 => u.2.2.2.2.2.2.2.2.2.2.2.2.2.2.2.2.2.2.2.2.1.1
  | 63 => u.2.2.2.2.2.2.2.2.2.2.2.2.2.2.2.2.2.2.2.2.1.2.1
  | 64 => u.2.2.2.2.2.2.2.2.2.2.2.2.2.2.2.2.2.2.2.2.1.2.2.1
  | 65 => u.2.2.2.2.2.2.2.2.2.2.2.2.2.2.2.2.2.2.2.2.1.2.2.2.1
  | 66 => u.2.2.2.2.2.2.2.2.2.2.2.2.2.2.2.2.2.2.2.2.1.2.2.2.2.1
  | 67 => u.2.2.2.2.2.2.2.2.2.2.2.2.2.2.2.2.2.2.2.2.1.2.2.2.2.2
  | 68 => u.2.2.2.2.2.2.2.2.1
  | 69 => u.2.2.2.2.2.2.2.2.2.2.2.2.2.2.2.2.2.2.2.1.1
  | 70 => u.2.2.2.2.2.2.2.2.2.2.2.2.2.2.2.2.2.2.2.1.2
  | 71 => u.2.2.2.2.2.2.2.2.2.2.2.2.2.2.2.2.2.2.2.2.2.1
  | 72 => u.2.2.2.2.2.2.2.2.2.2.2.2.2.2.2.2.2.2.2.2.2.2
  | 73 => u.2.2.2.2.2.2.2.2.2.1.1
  | 74 => u.2.2.2.2.2.2.2.2.2.1.2.1
  | 75 => u.2.2.2.2.2.2.2.2.2.1.2.2.1
  | 76 => u.2.2.2.2.2.2.2.2.2.1.2.2.2.1
  | 77 => u.2.2.2.2.2.2.2.2.2.1.2.2.2.2.1
  | 78 => u.2.2.2.2.2.2.2.2.2.1.2.2.2.2.2.1
  | 79 => u.2.2.2.2.2.2.2.2.2.1.2.2.2.2.2.2
  | 80 => u.2.2.2.2.2.2.2.2.2.2.1.1
  | 81 => u.2.2.2.2.2.2.2.2.2.2.1.2.1
  | 82 => u.2.2.2.2.2.2.2.2.2.2.1.2.2.1
  | 83 => u.2.2.2.2.2.2.2.2.2.2.1.2.2.2.1
  | 84 => u.2.2.2.2.2.2.2.2.2.2.1.2.2.2.2.1
  | 85 => u.2.2.2.2.2.2.2.2.2.2.1.2.2.2.2.2.1
  | 86 => u.2.2.2.2.2.2.2.2.2.2.1.2.2.2.2.2.2
  | 87 => u.2.2.2.2.2.2.2.2.2.2.2.1.1
  | 88 => u.2.2.2.2.2.2.2.2.2.2.2.1.2.1
  | 89 => u.2.2.2.2.2.2.2.2.2.2.2.1.2.2.1
  | 90 => u.2.2.2.2.2.2.2.2.2.2.2.1.2.2.2.1
  | 91 => u.2.2.2.2.2.2.2.2.2.2.2.1.2.2.2.2
  | 92 => u.2.2.2.2.2.2.2.2.2.2.2.2.1.1
  | 93 => u.2.2.2.2.2.2.2.2.2.2.2.2.1.2.1
  | 94 => u.2.2.2.2.2.2.2.2.2.2.2.2.1.2.2.1
  | 95 => u.2.2.2.2.2.2.2.2.2.2.2.2.1.2.2.2
  | 96 => u.2.2.2.2.2.2.2.2.2.2.2.2.2.1
  | 97 => u.2.1.2.1.2
  | 98 => p
  | 99 => v.1
  | 100 => v.2.1
  | 101 => v.2.2.1
  | 102 => v.2.2.2.1
  | 103 => v.2.2.2.2.1
  | 104 => v.2.2.2.2.2.1
  | 105 => v.2.2.2.2.2.2.1
  | 106 => v.2.2.2.2.2.2.2.1
  | 107 => v.2.2.2.2.2.2.2.2.1
  | 108 => v.2.2.2.2.2.2.2.2.2.1
  | 109 => v.2.2.2.2.2.2.2.2.2.2.1
  | 110 => v.2.2.2.2.2.2.2.2.2.2.2.1
  | 111 => v.2.2.2.2.2.2.2.2.2.2.2.2.1
  | 112 => v.2.2.2.2.2.2.2.2.2.2.2.2.2.1
  | 113 => v.2.2.2.2.2.2.2.2.2.2.2.2.2.2.1
  | 114 => v.2.2.2.2.2.2.2.2.2.2.2.2.2.2.2.1
  | 115 => v.2.2.2.2.2.2.2.2.2.2.2.2.2.2.2.2.1
  | 116 => v.2.2.2.2.2.2.2.2.2.2.2.2.2.2.2.2.2.1
  | 117 => v.2.2.2.2.2.2.2.2.2.2.2.2.2.2.2.2.2.2.1
  | 118 => v.2.2.2.2.2.2.2.2.2.2.2.2.2.2.2.2.2.2.2.1
  | 119 => v.2.2.2.2.2.2.2.2.2.2.2.2.2.2.2.2.2.2.2.2.1
  | 120 => v.2.2.2.2.2.2.2.2.2.2.2.2.2.2.2.2.2.2.2.2.2.1
  | 121 => v.2.2.2.2.2.2.2.2.2.2.2.2.2.2.2.2.2.2.2.2.2.2.1
  | 122 => v.2.2.2.2.2.2.2.2.2.2.2.2.2.2.2.2.2.2.2.2.2.2.2.1
  | 123 => v.2.2.2.2.2.2.2.2.2.2.2.2.2.2.2.2.2.2.2.2.2.2.2.2.1
  | 124 => v.2.2.2.2.2.2.2.2.2.2.2.2.2.2.2.2.2.2.2.2.2.2.2.2.2.1
  | 125 => v.2.2.2.2.2.2.2.2.2.2.2.2.2.2.2.2.2.2.2.2.2.2.2.2.2.2.1
  | 126 => v.2.2.2.2.2.2.2.2.2.2.2.2.2.2.2.2.2.2.2.2.2.2.2.2.2.2.2
  | _ => 0
def hI0 : Nat → Nat → Int32
  | 2 => fun k => match k with
    | 14 => -1
    | _ => 0
  | 14 => fun k => match k with
    | 0 => 1
    | 1 => 1
    | _ => 0
  | 21 => fun _ => (-1)
  | 23 => fun _ => (-1)
  | 27 => fun _ => (-1)
  | 29 => fun _ => (-1)
  | 31 => fun _ => (-1)
  | 33 => fun _ => (-1)
  | 35 => fun _ => (-1)
  | 37 => fun _ => (-1)
  | 39 => fun _ => (-1)
  | 41 => fun _ => (-1)
  | 43 => fun _ => (-1)
  | 45 => fun _ => (-1)
  | 47 => fun k => match k with
    | 0 => -1
    | _ => 0
  | 49 => fun k => match k with
    | 0 => -1
    | _ => 0
  | 51 => fun k => match k with
    | 0 => -1
    | _ => 0
  | 53 => fun k => match k with
    | 0 => -1
    | _ => 0
  | 56 => fun k => match k with
    | 0 => 1
    | 1 => 1
    | _ => 0
  | 62 => fun k => match k with
    | 0 => 1
    | 1 => 1
    | _ => 0
  | 70 => fun _ => (-1)
  | 72 => fun _ => (-1)
  | 80 => fun k => match k with
    | 0 => -1
    | _ => 0
  | 87 => fun k => match k with
    | 5 => 1
    | _ => 0
  | 92 => fun k => match k with
    | 4 => 1
    | _ => 0
  | 98 => fun k => match k with
    | 14 => -1
    | _ => 0
  | 99 => upd (upd plainF 1 1) 3 1
  | 124 => upd (upd (upd (upd (fun _ => 0) 0 (-1)) 1 (-1)) 2 (-1)) 3 (-1)
  | _ => fun _ => 0
def h0 : Hp := (hI0, fun _ _ => 0, fun n => match n with
  | 0 => some 97
  | 1 => some 4
  | 2 => none
  | _ => none)
abbrev gS (D : va_G) (cy : Nat → ClassId) (sa sv : Nat → Nat) (sz q : Nat) (u : S11) (p : Nat) (v : S12) : Gx := (D, adF q u p v, cy, sa, sv, sz)
theorem m_6_this (G : Gx) (a : Nat) (u : S6) : (((a, .inr (6, [.int 0, .long 0, .int 0, .int 0, .ref (u)])) : Nat × va_E)) ∈ Wc6 G a u := by unfold Wc6; exact List.mem_cons_self
theorem m_6_q1 (G : Gx) (a : Nat) (u : S6) : ((((u), .inl (gCy G 0, 8, .inl (fun _ => (-1)))) : Nat × va_E)) ∈ Wc6 G a u := by unfold Wc6; exact (List.mem_cons_of_mem _ (List.mem_append_right _ List.mem_cons_self))
def Fc6 (a : Nat) (u : S6) : List Nat := a :: ([] ++ [(u)])
theorem fst_6 (G : Gx) (a : Nat) (u : S6) : (Wc6 G a u).map Prod.fst = Fc6 a u := by
  unfold Wc6 Fc6
  simp only [List.map_append, List.map_cons, List.map_nil]
theorem m_3_this (G : Gx) (a : Nat) (u : S3) : (((a, .inr (3, [.ref (u.1), .ref (u.2), .int 0, .int 0])) : Nat × va_E)) ∈ Wc3 G a u := by unfold Wc3; exact List.mem_cons_self
theorem m_3_q1 (G : Gx) (a : Nat) (u : S3) : ((((u.1), .inl (gCy G 0, 900, .inl (fun _ => 0))) : Nat × va_E)) ∈ Wc3 G a u := by unfold Wc3; exact (List.mem_cons_of_mem _ (List.mem_append_left _ (List.mem_append_right _ List.mem_cons_self)))
theorem m_3_q2 (G : Gx) (a : Nat) (u : S3) : ((((u.2), .inl (gCy G 0, 64, .inl (fun _ => 0))) : Nat × va_E)) ∈ Wc3 G a u := by unfold Wc3; exact (List.mem_cons_of_mem _ (List.mem_append_right _ List.mem_cons_self))
def Fc3 (a : Nat) (u : S3) : List Nat := a :: (([] ++ [(u.1)]) ++ [(u.2)])
theorem fst_3 (G : Gx) (a : Nat) (u : S3) : (Wc3 G a u).map Prod.fst = Fc3 a u := by
  unfold Wc3 Fc3
  simp only [List.map_append, List.map_cons, List.map_nil]
theorem m_9_this (G : Gx) (a : Nat) (u : S9) : (((a, .inr (9, [.ref (u), .int 0, .int 0, .int 0, .int 0, .int 0])) : Nat × va_E)) ∈ Wc9 G a u := by unfold Wc9; exact List.mem_cons_self
theorem m_9_q1 (G : Gx) (a : Nat) (u : S9) : ((((u), .inl (gCy G 2, 0, .inl (fun _ => 0))) : Nat × va_E)) ∈ Wc9 G a u := by unfold Wc9; exact (List.mem_cons_of_mem _ (List.mem_append_right _ List.mem_cons_self))
def Fc9 (a : Nat) (u : S9) : List Nat := a :: ([] ++ [(u)])
theorem fst_9 (G : Gx) (a : Nat) (u : S9) : (Wc9 G a u).map Prod.fst = Fc9 a u := by
  unfold Wc9 Fc9
  simp only [List.map_append, List.map_cons, List.map_nil]
theorem m_2_this (G : Gx) (a : Nat) (u : S2) : (((a, .inr (2, [.int 1, .int 1, .int 0, .int 0, .ref (u.1), .ref (u.2.1), .ref (u.2.2.1), .ref (u.2.2.2.1), .ref (u.2.2.2.2)])) : Nat × va_E)) ∈ Wc2 G a u := by unfold Wc2; exact List.mem_cons_self
theorem m_2_q1 (G : Gx) (a : Nat) (u : S2) : ((((u.1), .inl (gCy G 0, 16, .inl (fun _ => 0))) : Nat × va_E)) ∈ Wc2 G a u := by unfold Wc2; exact (List.mem_cons_of_mem _ (List.mem_append_left _ (List.mem_append_left _ (List.mem_append_left _ (List.mem_append_left _ (List.mem_append_right _ List.mem_cons_self))))))
theorem m_2_q2 (G : Gx) (a : Nat) (u : S2) : ((((u.2.1), .inl (gCy G 0, 16, .inl (fun _ => 0))) : Nat × va_E)) ∈ Wc2 G a u := by unfold Wc2; exact (List.mem_cons_of_mem _ (List.mem_append_left _ (List.mem_append_left _ (List.mem_append_left _ (List.mem_append_right _ List.mem_cons_self)))))
theorem m_2_q3 (G : Gx) (a : Nat) (u : S2) : ((((u.2.2.1), .inl (gCy G 0, 8, .inl (fun _ => 0))) : Nat × va_E)) ∈ Wc2 G a u := by unfold Wc2; exact (List.mem_cons_of_mem _ (List.mem_append_left _ (List.mem_append_left _ (List.mem_append_right _ List.mem_cons_self))))
theorem m_2_q4 (G : Gx) (a : Nat) (u : S2) : ((((u.2.2.2.1), .inl (gCy G 0, 10, .inl (fun _ => 0))) : Nat × va_E)) ∈ Wc2 G a u := by unfold Wc2; exact (List.mem_cons_of_mem _ (List.mem_append_left _ (List.mem_append_right _ List.mem_cons_self)))
theorem m_2_q5 (G : Gx) (a : Nat) (u : S2) : ((((u.2.2.2.2), .inl (gCy G 0, 160, .inl (fun _ => 0))) : Nat × va_E)) ∈ Wc2 G a u := by unfold Wc2; exact (List.mem_cons_of_mem _ (List.mem_append_right _ List.mem_cons_self))
def Fc2 (a : Nat) (u : S2) : List Nat := a :: ((((([] ++ [(u.1)]) ++ [(u.2.1)]) ++ [(u.2.2.1)]) ++ [(u.2.2.2.1)]) ++ [(u.2.2.2.2)])
theorem fst_2 (G : Gx) (a : Nat) (u : S2) : (Wc2 G a u).map Prod.fst = Fc2 a u := by
  unfold Wc2 Fc2
  simp only [List.map_append, List.map_cons, List.map_nil]
theorem m_10_this (G : Gx) (a : Nat) (u : S10) : (((a, .inr (10, [.int (-1), .int 0, .ref (u)])) : Nat × va_E)) ∈ Wc10 G a u := by unfold Wc10; exact List.mem_cons_self
theorem m_10_q1 (G : Gx) (a : Nat) (u : S10) : ((((u), .inl (gCy G 1, 40, .inr (.inl (fun _ => 0)))) : Nat × va_E)) ∈ Wc10 G a u := by unfold Wc10; exact (List.mem_cons_of_mem _ (List.mem_append_right _ List.mem_cons_self))
def Fc10 (a : Nat) (u : S10) : List Nat := a :: ([] ++ [(u)])
theorem fst_10 (G : Gx) (a : Nat) (u : S10) : (Wc10 G a u).map Prod.fst = Fc10 a u := by
  unfold Wc10 Fc10
  simp only [List.map_append, List.map_cons, List.map_nil]
theorem m_8_this (G : Gx) (a : Nat) (u : S8) : (((a, .inr (8, [.null, .int 0, .int 0, .ref (u.1), .ref (u.2.1), .ref (u.2.2.1), .ref (u.2.2.2.1), .ref (u.2.2.2.2.1), .ref (u.2.2.2.2.2), .int 0])) : Nat × va_E)) ∈ Wc8 G a u := by unfold Wc8; exact List.mem_cons_self
theorem m_8_q1 (G : Gx) (a : Nat) (u : S8) : ((((u.1), .inl (gCy G 0, 8, .inl (fun _ => 0))) : Nat × va_E)) ∈ Wc8 G a u := by unfold Wc8; exact (List.mem_cons_of_mem _ (List.mem_append_left _ (List.mem_append_left _ (List.mem_append_left _ (List.mem_append_left _ (List.mem_append_left _ (List.mem_append_right _ List.mem_cons_self)))))))
theorem m_8_q2 (G : Gx) (a : Nat) (u : S8) : ((((u.2.1), .inl (gCy G 0, 8, .inl (fun _ => 0))) : Nat × va_E)) ∈ Wc8 G a u := by unfold Wc8; exact (List.mem_cons_of_mem _ (List.mem_append_left _ (List.mem_append_left _ (List.mem_append_left _ (List.mem_append_left _ (List.mem_append_right _ List.mem_cons_self))))))
theorem m_8_q3 (G : Gx) (a : Nat) (u : S8) : ((((u.2.2.1), .inl (gCy G 0, 8, .inl (fun _ => 0))) : Nat × va_E)) ∈ Wc8 G a u := by unfold Wc8; exact (List.mem_cons_of_mem _ (List.mem_append_left _ (List.mem_append_left _ (List.mem_append_left _ (List.mem_append_right _ List.mem_cons_self)))))
theorem m_8_q4 (G : Gx) (a : Nat) (u : S8) : ((((u.2.2.2.1), .inl (gCy G 0, 8, .inl (fun _ => 0))) : Nat × va_E)) ∈ Wc8 G a u := by unfold Wc8; exact (List.mem_cons_of_mem _ (List.mem_append_left _ (List.mem_append_left _ (List.mem_append_right _ List.mem_cons_self))))
theorem m_8_q5 (G : Gx) (a : Nat) (u : S8) : ((((u.2.2.2.2.1), .inl (gCy G 0, 8, .inl (fun _ => 0))) : Nat × va_E)) ∈ Wc8 G a u := by unfold Wc8; exact (List.mem_cons_of_mem _ (List.mem_append_left _ (List.mem_append_right _ List.mem_cons_self)))
theorem m_8_q6 (G : Gx) (a : Nat) (u : S8) : ((((u.2.2.2.2.2), .inl (gCy G 0, 8, .inl (fun _ => 0))) : Nat × va_E)) ∈ Wc8 G a u := by unfold Wc8; exact (List.mem_cons_of_mem _ (List.mem_append_right _ List.mem_cons_self))
def Fc8 (a : Nat) (u : S8) : List Nat := a :: (((((([] ++ [(u.1)]) ++ [(u.2.1)]) ++ [(u.2.2.1)]) ++ [(u.2.2.2.1)]) ++ [(u.2.2.2.2.1)]) ++ [(u.2.2.2.2.2)])
theorem fst_8 (G : Gx) (a : Nat) (u : S8) : (Wc8 G a u).map Prod.fst = Fc8 a u := by
  unfold Wc8 Fc8
  simp only [List.map_append, List.map_cons, List.map_nil]
theorem m_0_this (G : Gx) (a : Nat) (u : S0) : (((a, .inr (0, [.int (-1), .ref (u.1), .ref (u.2.1), .ref (u.2.2.1), .ref (u.2.2.2.1), .ref (u.2.2.2.2.1), .ref (u.2.2.2.2.2)])) : Nat × va_E)) ∈ Wc0 G a u := by unfold Wc0; exact List.mem_cons_self
theorem m_0_q1 (G : Gx) (a : Nat) (u : S0) : ((((u.1), .inl (gCy G 0, 8, .inl (fun _ => 0))) : Nat × va_E)) ∈ Wc0 G a u := by unfold Wc0; exact (List.mem_cons_of_mem _ (List.mem_append_left _ (List.mem_append_left _ (List.mem_append_left _ (List.mem_append_left _ (List.mem_append_left _ (List.mem_append_right _ List.mem_cons_self)))))))
theorem m_0_q2 (G : Gx) (a : Nat) (u : S0) : ((((u.2.1), .inl (gCy G 0, 8, .inl (fun _ => 0))) : Nat × va_E)) ∈ Wc0 G a u := by unfold Wc0; exact (List.mem_cons_of_mem _ (List.mem_append_left _ (List.mem_append_left _ (List.mem_append_left _ (List.mem_append_left _ (List.mem_append_right _ List.mem_cons_self))))))
theorem m_0_q3 (G : Gx) (a : Nat) (u : S0) : ((((u.2.2.1), .inl (gCy G 0, 8, .inl (fun _ => 0))) : Nat × va_E)) ∈ Wc0 G a u := by unfold Wc0; exact (List.mem_cons_of_mem _ (List.mem_append_left _ (List.mem_append_left _ (List.mem_append_left _ (List.mem_append_right _ List.mem_cons_self)))))
theorem m_0_q4 (G : Gx) (a : Nat) (u : S0) : ((((u.2.2.2.1), .inl (gCy G 0, 8, .inl (fun _ => 0))) : Nat × va_E)) ∈ Wc0 G a u := by unfold Wc0; exact (List.mem_cons_of_mem _ (List.mem_append_left _ (List.mem_append_left _ (List.mem_append_right _ List.mem_cons_self))))
theorem m_0_q5 (G : Gx) (a : Nat) (u : S0) : ((((u.2.2.2.2.1), .inl (gCy G 0, 8, .inl (fun _ => 0))) : Nat × va_E)) ∈ Wc0 G a u := by unfold Wc0; exact (List.mem_cons_of_mem _ (List.mem_append_left _ (List.mem_append_right _ List.mem_cons_self)))
theorem m_0_q6 (G : Gx) (a : Nat) (u : S0) : ((((u.2.2.2.2.2), .inl (gCy G 0, 8, .inl (fun _ => 0))) : Nat × va_E)) ∈ Wc0 G a u := by unfold Wc0; exact (List.mem_cons_of_mem _ (List.mem_append_right _ List.mem_cons_self))
def Fc0 (a : Nat) (u : S0) : List Nat := a :: (((((([] ++ [(u.1)]) ++ [(u.2.1)]) ++ [(u.2.2.1)]) ++ [(u.2.2.2.1)]) ++ [(u.2.2.2.2.1)]) ++ [(u.2.2.2.2.2)])
theorem fst_0 (G : Gx) (a : Nat) (u : S0) : (Wc0 G a u).map Prod.fst = Fc0 a u := by
  unfold Wc0 Fc0
  simp only [List.map_append, List.map_cons, List.map_nil]
theorem m_1_this (G : Gx) (a : Nat) (u : S1) : (((a, .inr (1, [.ref (u.1), .ref (u.2.1), .ref (u.2.2.1), .ref (u.2.2.2), .int 0, .int 1])) : Nat × va_E)) ∈ Wc1 G a u := by unfold Wc1; exact List.mem_cons_self
theorem m_1_q1 (G : Gx) (a : Nat) (u : S1) : ((((u.1), .inl (gCy G 0, 9, .inl (fun _ => 0))) : Nat × va_E)) ∈ Wc1 G a u := by unfold Wc1; exact (List.mem_cons_of_mem _ (List.mem_append_left _ (List.mem_append_left _ (List.mem_append_left _ (List.mem_append_right _ List.mem_cons_self)))))
theorem m_1_q2 (G : Gx) (a : Nat) (u : S1) : ((((u.2.1), .inl (gCy G 0, 9, .inl (fun _ => 0))) : Nat × va_E)) ∈ Wc1 G a u := by unfold Wc1; exact (List.mem_cons_of_mem _ (List.mem_append_left _ (List.mem_append_left _ (List.mem_append_right _ List.mem_cons_self))))
theorem m_1_q3 (G : Gx) (a : Nat) (u : S1) : ((((u.2.2.1), .inl (gCy G 0, 10, .inl (fun _ => 0))) : Nat × va_E)) ∈ Wc1 G a u := by unfold Wc1; exact (List.mem_cons_of_mem _ (List.mem_append_left _ (List.mem_append_right _ List.mem_cons_self)))
theorem m_1_q4 (G : Gx) (a : Nat) (u : S1) : ((((u.2.2.2), .inl (gCy G 0, 8, .inl (fun _ => 0))) : Nat × va_E)) ∈ Wc1 G a u := by unfold Wc1; exact (List.mem_cons_of_mem _ (List.mem_append_right _ List.mem_cons_self))
def Fc1 (a : Nat) (u : S1) : List Nat := a :: (((([] ++ [(u.1)]) ++ [(u.2.1)]) ++ [(u.2.2.1)]) ++ [(u.2.2.2)])
theorem fst_1 (G : Gx) (a : Nat) (u : S1) : (Wc1 G a u).map Prod.fst = Fc1 a u := by
  unfold Wc1 Fc1
  simp only [List.map_append, List.map_cons, List.map_nil]
theorem m_7_this (G : Gx) (a : Nat) (u : S7) : (((a, .inr (7, [.ref (u.1), .ref (u.2.1), .ref (u.2.2), .int 0, .int 1])) : Nat × va_E)) ∈ Wc7 G a u := by unfold Wc7; exact List.mem_cons_self
theorem m_7_q1 (G : Gx) (a : Nat) (u : S7) : ((((u.1), .inl (gCy G 0, 9512, .inl (fun _ => 0))) : Nat × va_E)) ∈ Wc7 G a u := by unfold Wc7; exact (List.mem_cons_of_mem _ (List.mem_append_left _ (List.mem_append_left _ (List.mem_append_right _ List.mem_cons_self))))
theorem m_7_q2 (G : Gx) (a : Nat) (u : S7) : ((((u.2.1), .inl (gCy G 0, 8, .inl (fun _ => 0))) : Nat × va_E)) ∈ Wc7 G a u := by unfold Wc7; exact (List.mem_cons_of_mem _ (List.mem_append_left _ (List.mem_append_right _ List.mem_cons_self)))
theorem m_7_q3 (G : Gx) (a : Nat) (u : S7) : ((((u.2.2), .inl (gCy G 0, 8, .inl (fun _ => 0))) : Nat × va_E)) ∈ Wc7 G a u := by unfold Wc7; exact (List.mem_cons_of_mem _ (List.mem_append_right _ List.mem_cons_self))
def Fc7 (a : Nat) (u : S7) : List Nat := a :: ((([] ++ [(u.1)]) ++ [(u.2.1)]) ++ [(u.2.2)])
theorem fst_7 (G : Gx) (a : Nat) (u : S7) : (Wc7 G a u).map Prod.fst = Fc7 a u := by
  unfold Wc7 Fc7
  simp only [List.map_append, List.map_cons, List.map_nil]
theorem m_4_this (G : Gx) (a : Nat) (u : S4) : (((a, .inr (4, [.ref (u.1), .int 0, .int 0])) : Nat × va_E)) ∈ Wc4 G a u := by unfold Wc4; exact List.mem_cons_self
theorem m_4_q1 (G : Gx) (a : Nat) (u : S4) : ((((u.1), .inl (gCy G 5, 10, .inr (.inr (.inr (.inr (va_up (va_up (va_up (va_up (va_up (va_up (va_up (va_up (va_up (va_up (fun _ => none) 0 (some (u.2.1.1))) 1 (some (u.2.2.1.1))) 2 (some (u.2.2.2.1.1))) 3 (some (u.2.2.2.2.1.1))) 4 (some (u.2.2.2.2.2.1.1))) 5 (some (u.2.2.2.2.2.2.1.1))) 6 (some (u.2.2.2.2.2.2.2.1.1))) 7 (some (u.2.2.2.2.2.2.2.2.1.1))) 8 (some (u.2.2.2.2.2.2.2.2.2.1.1))) 9 (some (u.2.2.2.2.2.2.2.2.2.2.1)))))))) : Nat × va_E)) ∈ Wc4 G a u := by unfold Wc4; exact (List.mem_cons_of_mem _ List.mem_cons_self)
theorem m_4_q2 (G : Gx) (a : Nat) (u : S4) {x : Nat × va_E} (h : x ∈ Wc6 G (u.2.1.1) (u.2.1.2)) : x ∈ Wc4 G a u := by unfold Wc4; exact (List.mem_cons_of_mem _ (List.mem_cons_of_mem _ (List.mem_append_left _ (List.mem_append_left _ (List.mem_append_left _ (List.mem_append_left _ (List.mem_append_left _ (List.mem_append_left _ (List.mem_append_left _ (List.mem_append_left _ (List.mem_append_left _ (List.mem_append_right _ h))))))))))))
theorem m_4_q4 (G : Gx) (a : Nat) (u : S4) {x : Nat × va_E} (h : x ∈ Wc6 G (u.2.2.1.1) (u.2.2.1.2)) : x ∈ Wc4 G a u := by unfold Wc4; exact (List.mem_cons_of_mem _ (List.mem_cons_of_mem _ (List.mem_append_left _ (List.mem_append_left _ (List.mem_append_left _ (List.mem_append_left _ (List.mem_append_left _ (List.mem_append_left _ (List.mem_append_left _ (List.mem_append_left _ (List.mem_append_right _ h)))))))))))
theorem m_4_q6 (G : Gx) (a : Nat) (u : S4) {x : Nat × va_E} (h : x ∈ Wc6 G (u.2.2.2.1.1) (u.2.2.2.1.2)) : x ∈ Wc4 G a u := by unfold Wc4; exact (List.mem_cons_of_mem _ (List.mem_cons_of_mem _ (List.mem_append_left _ (List.mem_append_left _ (List.mem_append_left _ (List.mem_append_left _ (List.mem_append_left _ (List.mem_append_left _ (List.mem_append_left _ (List.mem_append_right _ h))))))))))
theorem m_4_q8 (G : Gx) (a : Nat) (u : S4) {x : Nat × va_E} (h : x ∈ Wc6 G (u.2.2.2.2.1.1) (u.2.2.2.2.1.2)) : x ∈ Wc4 G a u := by unfold Wc4; exact (List.mem_cons_of_mem _ (List.mem_cons_of_mem _ (List.mem_append_left _ (List.mem_append_left _ (List.mem_append_left _ (List.mem_append_left _ (List.mem_append_left _ (List.mem_append_left _ (List.mem_append_right _ h)))))))))
theorem m_4_q10 (G : Gx) (a : Nat) (u : S4) {x : Nat × va_E} (h : x ∈ Wc6 G (u.2.2.2.2.2.1.1) (u.2.2.2.2.2.1.2)) : x ∈ Wc4 G a u := by unfold Wc4; exact (List.mem_cons_of_mem _ (List.mem_cons_of_mem _ (List.mem_append_left _ (List.mem_append_left _ (List.mem_append_left _ (List.mem_append_left _ (List.mem_append_left _ (List.mem_append_right _ h))))))))
theorem m_4_q12 (G : Gx) (a : Nat) (u : S4) {x : Nat × va_E} (h : x ∈ Wc6 G (u.2.2.2.2.2.2.1.1) (u.2.2.2.2.2.2.1.2)) : x ∈ Wc4 G a u := by unfold Wc4; exact (List.mem_cons_of_mem _ (List.mem_cons_of_mem _ (List.mem_append_left _ (List.mem_append_left _ (List.mem_append_left _ (List.mem_append_left _ (List.mem_append_right _ h)))))))
theorem m_4_q14 (G : Gx) (a : Nat) (u : S4) {x : Nat × va_E} (h : x ∈ Wc6 G (u.2.2.2.2.2.2.2.1.1) (u.2.2.2.2.2.2.2.1.2)) : x ∈ Wc4 G a u := by unfold Wc4; exact (List.mem_cons_of_mem _ (List.mem_cons_of_mem _ (List.mem_append_left _ (List.mem_append_left _ (List.mem_append_left _ (List.mem_append_right _ h))))))
theorem m_4_q16 (G : Gx) (a : Nat) (u : S4) {x : Nat × va_E} (h : x ∈ Wc6 G (u.2.2.2.2.2.2.2.2.1.1) (u.2.2.2.2.2.2.2.2.1.2)) : x ∈ Wc4 G a u := by unfold Wc4; exact (List.mem_cons_of_mem _ (List.mem_cons_of_mem _ (List.mem_append_left _ (List.mem_append_left _ (List.mem_append_right _ h)))))
theorem m_4_q18 (G : Gx) (a : Nat) (u : S4) {x : Nat × va_E} (h : x ∈ Wc6 G (u.2.2.2.2.2.2.2.2.2.1.1) (u.2.2.2.2.2.2.2.2.2.1.2)) : x ∈ Wc4 G a u := by unfold Wc4; exact (List.mem_cons_of_mem _ (List.mem_cons_of_mem _ (List.mem_append_left _ (List.mem_append_right _ h))))
theorem m_4_q20 (G : Gx) (a : Nat) (u : S4) {x : Nat × va_E} (h : x ∈ Wc6 G (u.2.2.2.2.2.2.2.2.2.2.1) (u.2.2.2.2.2.2.2.2.2.2.2)) : x ∈ Wc4 G a u := by unfold Wc4; exact (List.mem_cons_of_mem _ (List.mem_cons_of_mem _ (List.mem_append_right _ h)))
def Fc4 (a : Nat) (u : S4) : List Nat := a :: (u.1) :: (((((((((([] ++ Fc6 (u.2.1.1) (u.2.1.2)) ++ Fc6 (u.2.2.1.1) (u.2.2.1.2)) ++ Fc6 (u.2.2.2.1.1) (u.2.2.2.1.2)) ++ Fc6 (u.2.2.2.2.1.1) (u.2.2.2.2.1.2)) ++ Fc6 (u.2.2.2.2.2.1.1) (u.2.2.2.2.2.1.2)) ++ Fc6 (u.2.2.2.2.2.2.1.1) (u.2.2.2.2.2.2.1.2)) ++ Fc6 (u.2.2.2.2.2.2.2.1.1) (u.2.2.2.2.2.2.2.1.2)) ++ Fc6 (u.2.2.2.2.2.2.2.2.1.1) (u.2.2.2.2.2.2.2.2.1.2)) ++ Fc6 (u.2.2.2.2.2.2.2.2.2.1.1) (u.2.2.2.2.2.2.2.2.2.1.2)) ++ Fc6 (u.2.2.2.2.2.2.2.2.2.2.1) (u.2.2.2.2.2.2.2.2.2.2.2))
theorem fst_4 (G : Gx) (a : Nat) (u : S4) : (Wc4 G a u).map Prod.fst = Fc4 a u := by
  unfold Wc4 Fc4
  simp only [List.map_append, List.map_cons, List.map_nil, fst_6]
theorem m_5_this (G : Gx) (a : Nat) (u : S5) : (((a, .inr (5, [.ref (u.1.1), .ref (u.2.1.1), .ref (u.2.2.1.1), .ref (u.2.1.1), .int 0, .int 0, .int 0, .int 0, .ref (u.2.2.2.1), .ref (u.2.2.2.2.1), .ref (u.2.2.2.2.2.1), .ref (u.2.2.2.2.2.2), .int 0, .int 0, .int (-1)])) : Nat × va_E)) ∈ Wc5 G a u := by unfold Wc5; exact List.mem_cons_self
theorem m_5_q1 (G : Gx) (a : Nat) (u : S5) {x : Nat × va_E} (h : x ∈ Wc9 G (u.1.1) (u.1.2)) : x ∈ Wc5 G a u := by unfold Wc5; exact (List.mem_cons_of_mem _ (List.mem_append_left _ (List.mem_append_left _ (List.mem_append_left _ (List.mem_append_left _ (List.mem_append_left _ (List.mem_append_left _ (List.mem_append_right _ h))))))))
theorem m_5_q3 (G : Gx) (a : Nat) (u : S5) {x : Nat × va_E} (h : x ∈ Wc3 G (u.2.1.1) (u.2.1.2)) : x ∈ Wc5 G a u := by unfold Wc5; exact (List.mem_cons_of_mem _ (List.mem_append_left _ (List.mem_append_left _ (List.mem_append_left _ (List.mem_append_left _ (List.mem_append_left _ (List.mem_append_right _ h)))))))
theorem m_5_q5 (G : Gx) (a : Nat) (u : S5) {x : Nat × va_E} (h : x ∈ Wc3 G (u.2.2.1.1) (u.2.2.1.2)) : x ∈ Wc5 G a u := by unfold Wc5; exact (List.mem_cons_of_mem _ (List.mem_append_left _ (List.mem_append_left _ (List.mem_append_left _ (List.mem_append_left _ (List.mem_append_right _ h))))))
theorem m_5_q7 (G : Gx) (a : Nat) (u : S5) : ((((u.2.2.2.1), .inl (gCy G 0, 16, .inl (fun _ => 0))) : Nat × va_E)) ∈ Wc5 G a u := by unfold Wc5; exact (List.mem_cons_of_mem _ (List.mem_append_left _ (List.mem_append_left _ (List.mem_append_left _ (List.mem_append_right _ List.mem_cons_self)))))
theorem m_5_q8 (G : Gx) (a : Nat) (u : S5) : ((((u.2.2.2.2.1), .inl (gCy G 0, 16, .inl (fun _ => 0))) : Nat × va_E)) ∈ Wc5 G a u := by unfold Wc5; exact (List.mem_cons_of_mem _ (List.mem_append_left _ (List.mem_append_left _ (List.mem_append_right _ List.mem_cons_self))))
theorem m_5_q9 (G : Gx) (a : Nat) (u : S5) : ((((u.2.2.2.2.2.1), .inl (gCy G 0, 16, .inl (fun _ => 0))) : Nat × va_E)) ∈ Wc5 G a u := by unfold Wc5; exact (List.mem_cons_of_mem _ (List.mem_append_left _ (List.mem_append_right _ List.mem_cons_self)))
theorem m_5_q10 (G : Gx) (a : Nat) (u : S5) : ((((u.2.2.2.2.2.2), .inl (gCy G 0, 5, .inl (fun _ => 0))) : Nat × va_E)) ∈ Wc5 G a u := by unfold Wc5; exact (List.mem_cons_of_mem _ (List.mem_append_right _ List.mem_cons_self))
def Fc5 (a : Nat) (u : S5) : List Nat := a :: ((((((([] ++ Fc9 (u.1.1) (u.1.2)) ++ Fc3 (u.2.1.1) (u.2.1.2)) ++ Fc3 (u.2.2.1.1) (u.2.2.1.2)) ++ [(u.2.2.2.1)]) ++ [(u.2.2.2.2.1)]) ++ [(u.2.2.2.2.2.1)]) ++ [(u.2.2.2.2.2.2)])
theorem fst_5 (G : Gx) (a : Nat) (u : S5) : (Wc5 G a u).map Prod.fst = Fc5 a u := by
  unfold Wc5 Fc5
  simp only [List.map_append, List.map_cons, List.map_nil, fst_3, fst_9]
theorem m_11_this (G : Gx) (a : Nat) (u : S11) : (((a, .inr (11, [.ref (u.1), .int 0, .ref (u.2.1.1), .ref (u.2.2.1.1), .ref (u.2.2.2.1.1), .ref (u.2.2.2.2.1.1), .ref (u.2.2.2.2.2.1.1), .ref (u.2.2.2.2.2.2.1), .ref (u.2.2.2.2.2.2.2.1), .ref (u.2.2.2.2.2.2.2.2.1), .ref (u.2.2.2.2.2.2.2.2.2.1.1), .ref (u.2.2.2.2.2.2.2.2.2.2.1.1), .ref (u.2.2.2.2.2.2.2.2.2.2.2.1.1), .ref (u.2.2.2.2.2.2.2.2.2.2.2.2.1.1), .ref (u.2.2.2.2.2.2.2.2.2.2.2.2.2.1), .int 0])) : Nat × va_E)) ∈ Wc11 G a u := by unfold Wc11; exact List.mem_cons_self
theorem m_11_q18 (G : Gx) (a : Nat) (u : S11) : ((((u.2.2.2.2.2.2.1), .inl (gCy G 6, 4, .inr (.inr (.inr (.inr (va_up (va_up (va_up (va_up (fun _ => none) 0 (some (u.2.2.2.2.2.2.2.2.2.2.2.2.2.2.1.1))) 1 (some (u.2.2.2.2.2.2.2.2.2.2.2.2.2.2.2.1.1))) 2 (some (u.2.2.2.2.2.2.2.2.2.2.2.2.2.2.2.2.1.1))) 3 (some (u.2.2.2.2.2.2.2.2.2.2.2.2.2.2.2.2.2.1.1)))))))) : Nat × va_E)) ∈ Wc11 G a u := by unfold Wc11; exact (List.mem_cons_of_mem _ List.mem_cons_self)
theorem m_11_q19 (G : Gx) (a : Nat) (u : S11) : ((((u.2.2.2.2.2.2.2.1), .inl (gCy G 4, 2, .inr (.inr (.inr (.inr (va_up (va_up (fun _ => none) 0 (some (u.2.2.2.2.2.2.2.2.2.2.2.2.2.2.2.2.2.2.1.1))) 1 (some (u.2.2.2.2.2.2.2.2.2.2.2.2.2.2.2.2.2.2.2.2.1.1)))))))) : Nat × va_E)) ∈ Wc11 G a u := by unfold Wc11; exact (List.mem_cons_of_mem _ (List.mem_cons_of_mem _ List.mem_cons_self))
theorem m_11_q20 (G : Gx) (a : Nat) (u : S11) : ((((u.2.2.2.2.2.2.2.2.1), .inl (gCy G 5, 2, .inr (.inr (.inr (.inr (va_up (va_up (fun _ => none) 0 (some (u.2.2.2.2.2.2.2.2.2.2.2.2.2.2.2.2.2.2.2.1.1))) 1 (some (u.2.2.2.2.2.2.2.2.2.2.2.2.2.2.2.2.2.2.2.2.2.1)))))))) : Nat × va_E)) ∈ Wc11 G a u := by unfold Wc11; exact (List.mem_cons_of_mem _ (List.mem_cons_of_mem _ (List.mem_cons_of_mem _ List.mem_cons_self)))
theorem m_11_q1 (G : Gx) (a : Nat) (u : S11) : ((((u.1), .inl (gCy G 2, 900, .inl (fun _ => 0))) : Nat × va_E)) ∈ Wc11 G a u := by unfold Wc11; exact (List.mem_cons_of_mem _ (List.mem_cons_of_mem _ (List.mem_cons_of_mem _ (List.mem_cons_of_mem _ (List.mem_append_left _ (List.mem_append_left _ (List.mem_append_left _ (List.mem_append_left _ (List.mem_append_left _ (List.mem_append_left _ (List.mem_append_left _ (List.mem_append_left _ (List.mem_append_left _ (List.mem_append_left _ (List.mem_append_left _ (List.mem_append_left _ (List.mem_append_left _ (List.mem_append_left _ (List.mem_append_left _ (List.mem_append_left _ (List.mem_append_left _ (List.mem_append_left _ (List.mem_append_right _ List.mem_cons_self)))))))))))))))))))))))
theorem m_11_q3 (G : Gx) (a : Nat) (u : S11) {x : Nat × va_E} (h : x ∈ Wc5 G (u.2.1.1) (u.2.1.2)) : x ∈ Wc11 G a u := by unfold Wc11; exact (List.mem_cons_of_mem _ (List.mem_cons_of_mem _ (List.mem_cons_of_mem _ (List.mem_cons_of_mem _ (List.mem_append_left _ (List.mem_append_left _ (List.mem_append_left _ (List.mem_append_left _ (List.mem_append_left _ (List.mem_append_left _ (List.mem_append_left _ (List.mem_append_left _ (List.mem_append_left _ (List.mem_append_left _ (List.mem_append_left _ (List.mem_append_left _ (List.mem_append_left _ (List.mem_append_left _ (List.mem_append_left _ (List.mem_append_left _ (List.mem_append_left _ (List.mem_append_right _ h))))))))))))))))))))))
theorem m_11_q6 (G : Gx) (a : Nat) (u : S11) {x : Nat × va_E} (h : x ∈ Wc2 G (u.2.2.1.1) (u.2.2.1.2)) : x ∈ Wc11 G a u := by unfold Wc11; exact (List.mem_cons_of_mem _ (List.mem_cons_of_mem _ (List.mem_cons_of_mem _ (List.mem_cons_of_mem _ (List.mem_append_left _ (List.mem_append_left _ (List.mem_append_left _ (List.mem_append_left _ (List.mem_append_left _ (List.mem_append_left _ (List.mem_append_left _ (List.mem_append_left _ (List.mem_append_left _ (List.mem_append_left _ (List.mem_append_left _ (List.mem_append_left _ (List.mem_append_left _ (List.mem_append_left _ (List.mem_append_left _ (List.mem_append_left _ (List.mem_append_right _ h)))))))))))))))))))))
theorem m_11_q9 (G : Gx) (a : Nat) (u : S11) {x : Nat × va_E} (h : x ∈ Wc6 G (u.2.2.2.1.1) (u.2.2.2.1.2)) : x ∈ Wc11 G a u := by unfold Wc11; exact (List.mem_cons_of_mem _ (List.mem_cons_of_mem _ (List.mem_cons_of_mem _ (List.mem_cons_of_mem _ (List.mem_append_left _ (List.mem_append_left _ (List.mem_append_left _ (List.mem_append_left _ (List.mem_append_left _ (List.mem_append_left _ (List.mem_append_left _ (List.mem_append_left _ (List.mem_append_left _ (List.mem_append_left _ (List.mem_append_left _ (List.mem_append_left _ (List.mem_append_left _ (List.mem_append_left _ (List.mem_append_left _ (List.mem_append_right _ h))))))))))))))))))))
theorem m_11_q12 (G : Gx) (a : Nat) (u : S11) {x : Nat × va_E} (h : x ∈ Wc6 G (u.2.2.2.2.1.1) (u.2.2.2.2.1.2)) : x ∈ Wc11 G a u := by unfold Wc11; exact (List.mem_cons_of_mem _ (List.mem_cons_of_mem _ (List.mem_cons_of_mem _ (List.mem_cons_of_mem _ (List.mem_append_left _ (List.mem_append_left _ (List.mem_append_left _ (List.mem_append_left _ (List.mem_append_left _ (List.mem_append_left _ (List.mem_append_left _ (List.mem_append_left _ (List.mem_append_left _ (List.mem_append_left _ (List.mem_append_left _ (List.mem_append_left _ (List.mem_append_left _ (List.mem_append_left _ (List.mem_append_right _ h)))))))))))))))))))
theorem m_11_q15 (G : Gx) (a : Nat) (u : S11) {x : Nat × va_E} (h : x ∈ Wc4 G (u.2.2.2.2.2.1.1) (u.2.2.2.2.2.1.2)) : x ∈ Wc11 G a u := by unfold Wc11; exact (List.mem_cons_of_mem _ (List.mem_cons_of_mem _ (List.mem_cons_of_mem _ (List.mem_cons_of_mem _ (List.mem_append_left _ (List.mem_append_left _ (List.mem_append_left _ (List.mem_append_left _ (List.mem_append_left _ (List.mem_append_left _ (List.mem_append_left _ (List.mem_append_left _ (List.mem_append_left _ (List.mem_append_left _ (List.mem_append_left _ (List.mem_append_left _ (List.mem_append_left _ (List.mem_append_right _ h))))))))))))))))))
theorem m_11_q21 (G : Gx) (a : Nat) (u : S11) {x : Nat × va_E} (h : x ∈ Wc8 G (u.2.2.2.2.2.2.2.2.2.1.1) (u.2.2.2.2.2.2.2.2.2.1.2)) : x ∈ Wc11 G a u := by unfold Wc11; exact (List.mem_cons_of_mem _ (List.mem_cons_of_mem _ (List.mem_cons_of_mem _ (List.mem_cons_of_mem _ (List.mem_append_left _ (List.mem_append_left _ (List.mem_append_left _ (List.mem_append_left _ (List.mem_append_left _ (List.mem_append_left _ (List.mem_append_left _ (List.mem_append_left _ (List.mem_append_left _ (List.mem_append_left _ (List.mem_append_left _ (List.mem_append_left _ (List.mem_append_right _ h)))))))))))))))))
theorem m_11_q24 (G : Gx) (a : Nat) (u : S11) {x : Nat × va_E} (h : x ∈ Wc0 G (u.2.2.2.2.2.2.2.2.2.2.1.1) (u.2.2.2.2.2.2.2.2.2.2.1.2)) : x ∈ Wc11 G a u := by unfold Wc11; exact (List.mem_cons_of_mem _ (List.mem_cons_of_mem _ (List.mem_cons_of_mem _ (List.mem_cons_of_mem _ (List.mem_append_left _ (List.mem_append_left _ (List.mem_append_left _ (List.mem_append_left _ (List.mem_append_left _ (List.mem_append_left _ (List.mem_append_left _ (List.mem_append_left _ (List.mem_append_left _ (List.mem_append_left _ (List.mem_append_left _ (List.mem_append_right _ h))))))))))))))))
theorem m_11_q27 (G : Gx) (a : Nat) (u : S11) {x : Nat × va_E} (h : x ∈ Wc1 G (u.2.2.2.2.2.2.2.2.2.2.2.1.1) (u.2.2.2.2.2.2.2.2.2.2.2.1.2)) : x ∈ Wc11 G a u := by unfold Wc11; exact (List.mem_cons_of_mem _ (List.mem_cons_of_mem _ (List.mem_cons_of_mem _ (List.mem_cons_of_mem _ (List.mem_append_left _ (List.mem_append_left _ (List.mem_append_left _ (List.mem_append_left _ (List.mem_append_left _ (List.mem_append_left _ (List.mem_append_left _ (List.mem_append_left _ (List.mem_append_left _ (List.mem_append_left _ (List.mem_append_right _ h)))))))))))))))
theorem m_11_q30 (G : Gx) (a : Nat) (u : S11) {x : Nat × va_E} (h : x ∈ Wc7 G (u.2.2.2.2.2.2.2.2.2.2.2.2.1.1) (u.2.2.2.2.2.2.2.2.2.2.2.2.1.2)) : x ∈ Wc11 G a u := by unfold Wc11; exact (List.mem_cons_of_mem _ (List.mem_cons_of_mem _ (List.mem_cons_of_mem _ (List.mem_cons_of_mem _ (List.mem_append_left _ (List.mem_append_left _ (List.mem_append_left _ (List.mem_append_left _ (List.mem_append_left _ (List.mem_append_left _ (List.mem_append_left _ (List.mem_append_left _ (List.mem_append_left _ (List.mem_append_right _ h))))))))))))))
theorem m_11_q33 (G : Gx) (a : Nat) (u : S11) : ((((u.2.2.2.2.2.2.2.2.2.2.2.2.2.1), .inl (gCy G 0, 8, .inl (fun _ => 0))) : Nat × va_E)) ∈ Wc11 G a u := by unfold Wc11; exact (List.mem_cons_of_mem _ (List.mem_cons_of_mem _ (List.mem_cons_of_mem _ (List.mem_cons_of_mem _ (List.mem_append_left _ (List.mem_append_left _ (List.mem_append_left _ (List.mem_append_left _ (List.mem_append_left _ (List.mem_append_left _ (List.mem_append_left _ (List.mem_append_left _ (List.mem_append_right _ List.mem_cons_self)))))))))))))
theorem m_11_q35 (G : Gx) (a : Nat) (u : S11) {x : Nat × va_E} (h : x ∈ Wc10 G (u.2.2.2.2.2.2.2.2.2.2.2.2.2.2.1.1) (u.2.2.2.2.2.2.2.2.2.2.2.2.2.2.1.2)) : x ∈ Wc11 G a u := by unfold Wc11; exact (List.mem_cons_of_mem _ (List.mem_cons_of_mem _ (List.mem_cons_of_mem _ (List.mem_cons_of_mem _ (List.mem_append_left _ (List.mem_append_left _ (List.mem_append_left _ (List.mem_append_left _ (List.mem_append_left _ (List.mem_append_left _ (List.mem_append_left _ (List.mem_append_right _ h))))))))))))
theorem m_11_q38 (G : Gx) (a : Nat) (u : S11) {x : Nat × va_E} (h : x ∈ Wc10 G (u.2.2.2.2.2.2.2.2.2.2.2.2.2.2.2.1.1) (u.2.2.2.2.2.2.2.2.2.2.2.2.2.2.2.1.2)) : x ∈ Wc11 G a u := by unfold Wc11; exact (List.mem_cons_of_mem _ (List.mem_cons_of_mem _ (List.mem_cons_of_mem _ (List.mem_cons_of_mem _ (List.mem_append_left _ (List.mem_append_left _ (List.mem_append_left _ (List.mem_append_left _ (List.mem_append_left _ (List.mem_append_left _ (List.mem_append_right _ h)))))))))))
theorem m_11_q41 (G : Gx) (a : Nat) (u : S11) {x : Nat × va_E} (h : x ∈ Wc10 G (u.2.2.2.2.2.2.2.2.2.2.2.2.2.2.2.2.1.1) (u.2.2.2.2.2.2.2.2.2.2.2.2.2.2.2.2.1.2)) : x ∈ Wc11 G a u := by unfold Wc11; exact (List.mem_cons_of_mem _ (List.mem_cons_of_mem _ (List.mem_cons_of_mem _ (List.mem_cons_of_mem _ (List.mem_append_left _ (List.mem_append_left _ (List.mem_append_left _ (List.mem_append_left _ (List.mem_append_left _ (List.mem_append_right _ h))))))))))
theorem m_11_q44 (G : Gx) (a : Nat) (u : S11) {x : Nat × va_E} (h : x ∈ Wc10 G (u.2.2.2.2.2.2.2.2.2.2.2.2.2.2.2.2.2.1.1) (u.2.2.2.2.2.2.2.2.2.2.2.2.2.2.2.2.2.1.2)) : x ∈ Wc11 G a u := by unfold Wc11; exact (List.mem_cons_of_mem _ (List.mem_cons_of_mem _ (List.mem_cons_of_mem _ (List.mem_cons_of_mem _ (List.mem_append_left _ (List.mem_append_left _ (List.mem_append_left _ (List.mem_append_left _ (List.mem_append_right _ h)))))))))
theorem m_11_q47 (G : Gx) (a : Nat) (u : S11) {x : Nat × va_E} (h : x ∈ Wc2 G (u.2.2.2.2.2.2.2.2.2.2.2.2.2.2.2.2.2.2.1.1) (u.2.2.2.2.2.2.2.2.2.2.2.2.2.2.2.2.2.2.1.2)) : x ∈ Wc11 G a u := by unfold Wc11; exact (List.mem_cons_of_mem _ (List.mem_cons_of_mem _ (List.mem_cons_of_mem _ (List.mem_cons_of_mem _ (List.mem_append_left _ (List.mem_append_left _ (List.mem_append_left _ (List.mem_append_right _ h))))))))
theorem m_11_q50 (G : Gx) (a : Nat) (u : S11) {x : Nat × va_E} (h : x ∈ Wc6 G (u.2.2.2.2.2.2.2.2.2.2.2.2.2.2.2.2.2.2.2.1.1) (u.2.2.2.2.2.2.2.2.2.2.2.2.2.2.2.2.2.2.2.1.2)) : x ∈ Wc11 G a u := by unfold Wc11; exact (List.mem_cons_of_mem _ (List.mem_cons_of_mem _ (List.mem_cons_of_mem _ (List.mem_cons_of_mem _ (List.mem_append_left _ (List.mem_append_left _ (List.mem_append_right _ h)))))))
theorem m_11_q53 (G : Gx) (a : Nat) (u : S11) {x : Nat × va_E} (h : x ∈ Wc2 G (u.2.2.2.2.2.2.2.2.2.2.2.2.2.2.2.2.2.2.2.2.1.1) (u.2.2.2.2.2.2.2.2.2.2.2.2.2.2.2.2.2.2.2.2.1.2)) : x ∈ Wc11 G a u := by unfold Wc11; exact (List.mem_cons_of_mem _ (List.mem_cons_of_mem _ (List.mem_cons_of_mem _ (List.mem_cons_of_mem _ (List.mem_append_left _ (List.mem_append_right _ h))))))
theorem m_11_q56 (G : Gx) (a : Nat) (u : S11) {x : Nat × va_E} (h : x ∈ Wc6 G (u.2.2.2.2.2.2.2.2.2.2.2.2.2.2.2.2.2.2.2.2.2.1) (u.2.2.2.2.2.2.2.2.2.2.2.2.2.2.2.2.2.2.2.2.2.2)) : x ∈ Wc11 G a u := by unfold Wc11; exact (List.mem_cons_of_mem _ (List.mem_cons_of_mem _ (List.mem_cons_of_mem _ (List.mem_cons_of_mem _ (List.mem_append_right _ h)))))
def Fc11 (a : Nat) (u : S11) : List Nat := a :: (u.2.2.2.2.2.2.1) :: (u.2.2.2.2.2.2.2.1) :: (u.2.2.2.2.2.2.2.2.1) :: ((((((((((((((((((([] ++ [(u.1)]) ++ Fc5 (u.2.1.1) (u.2.1.2)) ++ Fc2 (u.2.2.1.1) (u.2.2.1.2)) ++ Fc6 (u.2.2.2.1.1) (u.2.2.2.1.2)) ++ Fc6 (u.2.2.2.2.1.1) (u.2.2.2.2.1.2)) ++ Fc4 (u.2.2.2.2.2.1.1) (u.2.2.2.2.2.1.2)) ++ Fc8 (u.2.2.2.2.2.2.2.2.2.1.1) (u.2.2.2.2.2.2.2.2.2.1.2)) ++ Fc0 (u.2.2.2.2.2.2.2.2.2.2.1.1) (u.2.2.2.2.2.2.2.2.2.2.1.2)) ++ Fc1 (u.2.2.2.2.2.2.2.2.2.2.2.1.1) (u.2.2.2.2.2.2.2.2.2.2.2.1.2)) ++ Fc7 (u.2.2.2.2.2.2.2.2.2.2.2.2.1.1) (u.2.2.2.2.2.2.2.2.2.2.2.2.1.2)) ++ [(u.2.2.2.2.2.2.2.2.2.2.2.2.2.1)]) ++ Fc10 (u.2.2.2.2.2.2.2.2.2.2.2.2.2.2.1.1) (u.2.2.2.2.2.2.2.2.2.2.2.2.2.2.1.2)) ++ Fc10 (u.2.2.2.2.2.2.2.2.2.2.2.2.2.2.2.1.1) (u.2.2.2.2.2.2.2.2.2.2.2.2.2.2.2.1.2)) ++ Fc10 (u.2.2.2.2.2.2.2.2.2.2.2.2.2.2.2.2.1.1) (u.2.2.2.2.2.2.2.2.2.2.2.2.2.2.2.2.1.2)) ++ Fc10 (u.2.2.2.2.2.2.2.2.2.2.2.2.2.2.2.2.2.1.1) (u.2.2.2.2.2.2.2.2.2.2.2.2.2.2.2.2.2.1.2)) ++ Fc2 (u.2.2.2.2.2.2.2.2.2.2.2.2.2.2.2.2.2.2.1.1) (u.2.2.2.2.2.2.2.2.2.2.2.2.2.2.2.2.2.2.1.2)) ++ Fc6 (u.2.2.2.2.2.2.2.2.2.2.2.2.2.2.2.2.2.2.2.1.1) (u.2.2.2.2.2.2.2.2.2.2.2.2.2.2.2.2.2.2.2.1.2)) ++ Fc2 (u.2.2.2.2.2.2.2.2.2.2.2.2.2.2.2.2.2.2.2.2.1.1) (u.2.2.2.2.2.2.2.2.2.2.2.2.2.2.2.2.2.2.2.2.1.2)) ++ Fc6 (u.2.2.2.2.2.2.2.2.2.2.2.2.2.2.2.2.2.2.2.2.2.1) (u.2.2.2.2.2.2.2.2.2.2.2.2.2.2.2.2.2.2.2.2.2.2))
theorem fst_11 (G : Gx) (a : Nat) (u : S11) : (Wc11 G a u).map Prod.fst = Fc11 a u := by
  unfold Wc11 Fc11
  simp only [List.map_append, List.map_cons, List.map_nil, fst_0, fst_1, fst_2, fst_4, fst_5, fst_6, fst_7, fst_8, fst_10]
theorem m_12_this (G : Gx) (a : Nat) (u : S12) : (((a, .inr (12, [.int 0, .ref (u.1), .ref (u.2.1), .ref (u.2.2.1), .ref (u.2.2.2.1), .int 0, .int 0, .int 0, .int 0, .int 0, .int 0, .int 0, .int 0, .int 0, .int (-1), .ref (u.2.2.2.2.1), .ref (u.2.2.2.2.2.1), .ref (u.2.2.2.2.2.2.1), .ref (u.2.2.2.2.2.2.2.1), .ref (u.2.2.2.2.2.2.2.2.1), .ref (u.2.2.2.2.2.2.2.2.2.1), .ref (u.2.2.2.2.2.2.2.2.2.2.1), .int 0, .int 0, .ref (u.2.2.2.2.2.2.2.2.2.2.2.1), .ref (u.2.2.2.2.2.2.2.2.2.2.2.2.1), .ref (u.2.2.2.2.2.2.2.2.2.2.2.2.2.1), .ref (u.2.2.2.2.2.2.2.2.2.2.2.2.2.2.1), .int 0, .ref (u.2.2.2.2.2.2.2.2.2.2.2.2.2.2.2.1), .ref (u.2.2.2.2.2.2.2.2.2.2.2.2.2.2.2.2.1), .ref (u.2.2.2.2.2.2.2.2.2.2.2.2.2.2.2.2.2.1), .ref (u.2.2.2.2.2.2.2.2.2.2.2.2.2.2.2.2.2.2.1), .ref (u.2.2.2.2.2.2.2.2.2.2.2.2.2.2.2.2.2.2.2.1), .ref (u.2.2.2.2.2.2.2.2.2.2.2.2.2.2.2.2.2.2.2.2.1), .ref (u.2.2.2.2.2.2.2.2.2.2.2.2.2.2.2.2.2.2.2.2.2.1), .int 0, .int 0, .ref (u.2.2.2.2.2.2.2.2.2.2.2.2.2.2.2.2.2.2.2.2.2.2.1), .ref (u.2.2.2.2.2.2.2.2.2.2.2.2.2.2.2.2.2.2.2.2.2.2.2.1), .ref (u.2.2.2.2.2.2.2.2.2.2.2.2.2.2.2.2.2.2.2.2.2.2.2.2.1), .long 0, .long 0, .ref (u.2.2.2.2.2.2.2.2.2.2.2.2.2.2.2.2.2.2.2.2.2.2.2.2.2.1), .ref (u.2.2.2.2.2.2.2.2.2.2.2.2.2.2.2.2.2.2.2.2.2.2.2.2.2.2.1), .ref (u.2.2.2.2.2.2.2.2.2.2.2.2.2.2.2.2.2.2.2.2.2.2.2.2.2.2.2)])) : Nat × va_E)) ∈ Wc12 G a u := by unfold Wc12; exact List.mem_cons_self
theorem m_12_q1 (G : Gx) (a : Nat) (u : S12) : ((((u.1), .inl (gCy G 0, 3276, .inl (upd (upd plainF 1 1) 3 1))) : Nat × va_E)) ∈ Wc12 G a u := by unfold Wc12; exact (List.mem_cons_of_mem _ List.mem_cons_self)
theorem m_12_q50 (G : Gx) (a : Nat) (u : S12) : ((((u.2.2.2.2.2.2.2.2.2.2.2.2.2.2.2.2.2.2.2.2.2.2.2.2.2.1), .inl (gCy G 0, 4, .inl (upd (upd (upd (upd (fun _ => 0) 0 (-1)) 1 (-1)) 2 (-1)) 3 (-1)))) : Nat × va_E)) ∈ Wc12 G a u := by unfold Wc12; exact (List.mem_cons_of_mem _ (List.mem_cons_of_mem _ List.mem_cons_self))
theorem m_12_q2 (G : Gx) (a : Nat) (u : S12) : ((((u.2.1), .inl (gCy G 3, 2, .inl (fun _ => 0))) : Nat × va_E)) ∈ Wc12 G a u := by unfold Wc12; exact (List.mem_cons_of_mem _ (List.mem_cons_of_mem _ (List.mem_cons_of_mem _ (List.mem_append_left _ (List.mem_append_left _ (List.mem_append_left _ (List.mem_append_left _ (List.mem_append_left _ (List.mem_append_left _ (List.mem_append_left _ (List.mem_append_left _ (List.mem_append_left _ (List.mem_append_left _ (List.mem_append_left _ (List.mem_append_left _ (List.mem_append_left _ (List.mem_append_left _ (List.mem_append_left _ (List.mem_append_left _ (List.mem_append_left _ (List.mem_append_left _ (List.mem_append_left _ (List.mem_append_left _ (List.mem_append_left _ (List.mem_append_left _ (List.mem_append_left _ (List.mem_append_left _ (List.mem_append_left _ (List.mem_append_right _ List.mem_cons_self)))))))))))))))))))))))))))))
theorem m_12_q4 (G : Gx) (a : Nat) (u : S12) : ((((u.2.2.1), .inl (gCy G 0, 900, .inl (fun _ => 0))) : Nat × va_E)) ∈ Wc12 G a u := by unfold Wc12; exact (List.mem_cons_of_mem _ (List.mem_cons_of_mem _ (List.mem_cons_of_mem _ (List.mem_append_left _ (List.mem_append_left _ (List.mem_append_left _ (List.mem_append_left _ (List.mem_append_left _ (List.mem_append_left _ (List.mem_append_left _ (List.mem_append_left _ (List.mem_append_left _ (List.mem_append_left _ (List.mem_append_left _ (List.mem_append_left _ (List.mem_append_left _ (List.mem_append_left _ (List.mem_append_left _ (List.mem_append_left _ (List.mem_append_left _ (List.mem_append_left _ (List.mem_append_left _ (List.mem_append_left _ (List.mem_append_left _ (List.mem_append_left _ (List.mem_append_left _ (List.mem_append_left _ (List.mem_append_right _ List.mem_cons_self))))))))))))))))))))))))))))
theorem m_12_q6 (G : Gx) (a : Nat) (u : S12) : ((((u.2.2.2.1), .inl (gCy G 0, 1092, .inl (fun _ => 0))) : Nat × va_E)) ∈ Wc12 G a u := by unfold Wc12; exact (List.mem_cons_of_mem _ (List.mem_cons_of_mem _ (List.mem_cons_of_mem _ (List.mem_append_left _ (List.mem_append_left _ (List.mem_append_left _ (List.mem_append_left _ (List.mem_append_left _ (List.mem_append_left _ (List.mem_append_left _ (List.mem_append_left _ (List.mem_append_left _ (List.mem_append_left _ (List.mem_append_left _ (List.mem_append_left _ (List.mem_append_left _ (List.mem_append_left _ (List.mem_append_left _ (List.mem_append_left _ (List.mem_append_left _ (List.mem_append_left _ (List.mem_append_left _ (List.mem_append_left _ (List.mem_append_left _ (List.mem_append_left _ (List.mem_append_left _ (List.mem_append_right _ List.mem_cons_self)))))))))))))))))))))))))))
theorem m_12_q8 (G : Gx) (a : Nat) (u : S12) : ((((u.2.2.2.2.1), .inl (gCy G 0, 900, .inl (fun _ => 0))) : Nat × va_E)) ∈ Wc12 G a u := by unfold Wc12; exact (List.mem_cons_of_mem _ (List.mem_cons_of_mem _ (List.mem_cons_of_mem _ (List.mem_append_left _ (List.mem_append_left _ (List.mem_append_left _ (List.mem_append_left _ (List.mem_append_left _ (List.mem_append_left _ (List.mem_append_left _ (List.mem_append_left _ (List.mem_append_left _ (List.mem_append_left _ (List.mem_append_left _ (List.mem_append_left _ (List.mem_append_left _ (List.mem_append_left _ (List.mem_append_left _ (List.mem_append_left _ (List.mem_append_left _ (List.mem_append_left _ (List.mem_append_left _ (List.mem_append_left _ (List.mem_append_left _ (List.mem_append_left _ (List.mem_append_right _ List.mem_cons_self))))))))))))))))))))))))))
theorem m_12_q10 (G : Gx) (a : Nat) (u : S12) : ((((u.2.2.2.2.2.1), .inl (gCy G 0, 5, .inl (fun _ => 0))) : Nat × va_E)) ∈ Wc12 G a u := by unfold Wc12; exact (List.mem_cons_of_mem _ (List.mem_cons_of_mem _ (List.mem_cons_of_mem _ (List.mem_append_left _ (List.mem_append_left _ (List.mem_append_left _ (List.mem_append_left _ (List.mem_append_left _ (List.mem_append_left _ (List.mem_append_left _ (List.mem_append_left _ (List.mem_append_left _ (List.mem_append_left _ (List.mem_append_left _ (List.mem_append_left _ (List.mem_append_left _ (List.mem_append_left _ (List.mem_append_left _ (List.mem_append_left _ (List.mem_append_left _ (List.mem_append_left _ (List.mem_append_left _ (List.mem_append_left _ (List.mem_append_left _ (List.mem_append_right _ List.mem_cons_self)))))))))))))))))))))))))
theorem m_12_q12 (G : Gx) (a : Nat) (u : S12) : ((((u.2.2.2.2.2.2.1), .inl (gCy G 0, 24, .inl (fun _ => 0))) : Nat × va_E)) ∈ Wc12 G a u := by unfold Wc12; exact (List.mem_cons_of_mem _ (List.mem_cons_of_mem _ (List.mem_cons_of_mem _ (List.mem_append_left _ (List.mem_append_left _ (List.mem_append_left _ (List.mem_append_left _ (List.mem_append_left _ (List.mem_append_left _ (List.mem_append_left _ (List.mem_append_left _ (List.mem_append_left _ (List.mem_append_left _ (List.mem_append_left _ (List.mem_append_left _ (List.mem_append_left _ (List.mem_append_left _ (List.mem_append_left _ (List.mem_append_left _ (List.mem_append_left _ (List.mem_append_left _ (List.mem_append_left _ (List.mem_append_left _ (List.mem_append_right _ List.mem_cons_self))))))))))))))))))))))))
theorem m_12_q14 (G : Gx) (a : Nat) (u : S12) : ((((u.2.2.2.2.2.2.2.1), .inl (gCy G 0, 24, .inl (fun _ => 0))) : Nat × va_E)) ∈ Wc12 G a u := by unfold Wc12; exact (List.mem_cons_of_mem _ (List.mem_cons_of_mem _ (List.mem_cons_of_mem _ (List.mem_append_left _ (List.mem_append_left _ (List.mem_append_left _ (List.mem_append_left _ (List.mem_append_left _ (List.mem_append_left _ (List.mem_append_left _ (List.mem_append_left _ (List.mem_append_left _ (List.mem_append_left _ (List.mem_append_left _ (List.mem_append_left _ (List.mem_append_left _ (List.mem_append_left _ (List.mem_append_left _ (List.mem_append_left _ (List.mem_append_left _ (List.mem_append_left _ (List.mem_append_left _ (List.mem_append_right _ List.mem_cons_self)))))))))))))))))))))))
theorem m_12_q16 (G : Gx) (a : Nat) (u : S12) : ((((u.2.2.2.2.2.2.2.2.1), .inl (gCy G 0, 24, .inl (fun _ => 0))) : Nat × va_E)) ∈ Wc12 G a u := by unfold Wc12; exact (List.mem_cons_of_mem _ (List.mem_cons_of_mem _ (List.mem_cons_of_mem _ (List.mem_append_left _ (List.mem_append_left _ (List.mem_append_left _ (List.mem_append_left _ (List.mem_append_left _ (List.mem_append_left _ (List.mem_append_left _ (List.mem_append_left _ (List.mem_append_left _ (List.mem_append_left _ (List.mem_append_left _ (List.mem_append_left _ (List.mem_append_left _ (List.mem_append_left _ (List.mem_append_left _ (List.mem_append_left _ (List.mem_append_left _ (List.mem_append_left _ (List.mem_append_right _ List.mem_cons_self))))))))))))))))))))))
theorem m_12_q18 (G : Gx) (a : Nat) (u : S12) : ((((u.2.2.2.2.2.2.2.2.2.1), .inl (gCy G 0, 8, .inl (fun _ => 0))) : Nat × va_E)) ∈ Wc12 G a u := by unfold Wc12; exact (List.mem_cons_of_mem _ (List.mem_cons_of_mem _ (List.mem_cons_of_mem _ (List.mem_append_left _ (List.mem_append_left _ (List.mem_append_left _ (List.mem_append_left _ (List.mem_append_left _ (List.mem_append_left _ (List.mem_append_left _ (List.mem_append_left _ (List.mem_append_left _ (List.mem_append_left _ (List.mem_append_left _ (List.mem_append_left _ (List.mem_append_left _ (List.mem_append_left _ (List.mem_append_left _ (List.mem_append_left _ (List.mem_append_left _ (List.mem_append_right _ List.mem_cons_self)))))))))))))))))))))
theorem m_12_q20 (G : Gx) (a : Nat) (u : S12) : ((((u.2.2.2.2.2.2.2.2.2.2.1), .inl (gCy G 0, 12, .inl (fun _ => 0))) : Nat × va_E)) ∈ Wc12 G a u := by unfold Wc12; exact (List.mem_cons_of_mem _ (List.mem_cons_of_mem _ (List.mem_cons_of_mem _ (List.mem_append_left _ (List.mem_append_left _ (List.mem_append_left _ (List.mem_append_left _ (List.mem_append_left _ (List.mem_append_left _ (List.mem_append_left _ (List.mem_append_left _ (List.mem_append_left _ (List.mem_append_left _ (List.mem_append_left _ (List.mem_append_left _ (List.mem_append_left _ (List.mem_append_left _ (List.mem_append_left _ (List.mem_append_left _ (List.mem_append_right _ List.mem_cons_self))))))))))))))))))))
theorem m_12_q22 (G : Gx) (a : Nat) (u : S12) : ((((u.2.2.2.2.2.2.2.2.2.2.2.1), .inl (gCy G 0, 1024, .inl (fun _ => 0))) : Nat × va_E)) ∈ Wc12 G a u := by unfold Wc12; exact (List.mem_cons_of_mem _ (List.mem_cons_of_mem _ (List.mem_cons_of_mem _ (List.mem_append_left _ (List.mem_append_left _ (List.mem_append_left _ (List.mem_append_left _ (List.mem_append_left _ (List.mem_append_left _ (List.mem_append_left _ (List.mem_append_left _ (List.mem_append_left _ (List.mem_append_left _ (List.mem_append_left _ (List.mem_append_left _ (List.mem_append_left _ (List.mem_append_left _ (List.mem_append_left _ (List.mem_append_right _ List.mem_cons_self)))))))))))))))))))
theorem m_12_q24 (G : Gx) (a : Nat) (u : S12) : ((((u.2.2.2.2.2.2.2.2.2.2.2.2.1), .inl (gCy G 0, 1024, .inl (fun _ => 0))) : Nat × va_E)) ∈ Wc12 G a u := by unfold Wc12; exact (List.mem_cons_of_mem _ (List.mem_cons_of_mem _ (List.mem_cons_of_mem _ (List.mem_append_left _ (List.mem_append_left _ (List.mem_append_left _ (List.mem_append_left _ (List.mem_append_left _ (List.mem_append_left _ (List.mem_append_left _ (List.mem_append_left _ (List.mem_append_left _ (List.mem_append_left _ (List.mem_append_left _ (List.mem_append_left _ (List.mem_append_left _ (List.mem_append_left _ (List.mem_append_right _ List.mem_cons_self))))))))))))))))))
theorem m_12_q26 (G : Gx) (a : Nat) (u : S12) : ((((u.2.2.2.2.2.2.2.2.2.2.2.2.2.1), .inl (gCy G 0, 1024, .inl (fun _ => 0))) : Nat × va_E)) ∈ Wc12 G a u := by unfold Wc12; exact (List.mem_cons_of_mem _ (List.mem_cons_of_mem _ (List.mem_cons_of_mem _ (List.mem_append_left _ (List.mem_append_left _ (List.mem_append_left _ (List.mem_append_left _ (List.mem_append_left _ (List.mem_append_left _ (List.mem_append_left _ (List.mem_append_left _ (List.mem_append_left _ (List.mem_append_left _ (List.mem_append_left _ (List.mem_append_left _ (List.mem_append_left _ (List.mem_append_right _ List.mem_cons_self)))))))))))))))))
theorem m_12_q28 (G : Gx) (a : Nat) (u : S12) : ((((u.2.2.2.2.2.2.2.2.2.2.2.2.2.2.1), .inl (gCy G 0, 1024, .inl (fun _ => 0))) : Nat × va_E)) ∈ Wc12 G a u := by unfold Wc12; exact (List.mem_cons_of_mem _ (List.mem_cons_of_mem _ (List.mem_cons_of_mem _ (List.mem_append_left _ (List.mem_append_left _ (List.mem_append_left _ (List.mem_append_left _ (List.mem_append_left _ (List.mem_append_left _ (List.mem_append_left _ (List.mem_append_left _ (List.mem_append_left _ (List.mem_append_left _ (List.mem_append_left _ (List.mem_append_left _ (List.mem_append_right _ List.mem_cons_self))))))))))))))))
theorem m_12_q30 (G : Gx) (a : Nat) (u : S12) : ((((u.2.2.2.2.2.2.2.2.2.2.2.2.2.2.2.1), .inl (gCy G 0, 2, .inl (fun _ => 0))) : Nat × va_E)) ∈ Wc12 G a u := by unfold Wc12; exact (List.mem_cons_of_mem _ (List.mem_cons_of_mem _ (List.mem_cons_of_mem _ (List.mem_append_left _ (List.mem_append_left _ (List.mem_append_left _ (List.mem_append_left _ (List.mem_append_left _ (List.mem_append_left _ (List.mem_append_left _ (List.mem_append_left _ (List.mem_append_left _ (List.mem_append_left _ (List.mem_append_left _ (List.mem_append_right _ List.mem_cons_self)))))))))))))))
theorem m_12_q32 (G : Gx) (a : Nat) (u : S12) : ((((u.2.2.2.2.2.2.2.2.2.2.2.2.2.2.2.2.1), .inl (gCy G 0, 8, .inl (fun _ => 0))) : Nat × va_E)) ∈ Wc12 G a u := by unfold Wc12; exact (List.mem_cons_of_mem _ (List.mem_cons_of_mem _ (List.mem_cons_of_mem _ (List.mem_append_left _ (List.mem_append_left _ (List.mem_append_left _ (List.mem_append_left _ (List.mem_append_left _ (List.mem_append_left _ (List.mem_append_left _ (List.mem_append_left _ (List.mem_append_left _ (List.mem_append_left _ (List.mem_append_right _ List.mem_cons_self))))))))))))))
theorem m_12_q34 (G : Gx) (a : Nat) (u : S12) : ((((u.2.2.2.2.2.2.2.2.2.2.2.2.2.2.2.2.2.1), .inl (gCy G 0, 16, .inl (fun _ => 0))) : Nat × va_E)) ∈ Wc12 G a u := by unfold Wc12; exact (List.mem_cons_of_mem _ (List.mem_cons_of_mem _ (List.mem_cons_of_mem _ (List.mem_append_left _ (List.mem_append_left _ (List.mem_append_left _ (List.mem_append_left _ (List.mem_append_left _ (List.mem_append_left _ (List.mem_append_left _ (List.mem_append_left _ (List.mem_append_left _ (List.mem_append_right _ List.mem_cons_self)))))))))))))
theorem m_12_q36 (G : Gx) (a : Nat) (u : S12) : ((((u.2.2.2.2.2.2.2.2.2.2.2.2.2.2.2.2.2.2.1), .inl (gCy G 0, 8, .inl (fun _ => 0))) : Nat × va_E)) ∈ Wc12 G a u := by unfold Wc12; exact (List.mem_cons_of_mem _ (List.mem_cons_of_mem _ (List.mem_cons_of_mem _ (List.mem_append_left _ (List.mem_append_left _ (List.mem_append_left _ (List.mem_append_left _ (List.mem_append_left _ (List.mem_append_left _ (List.mem_append_left _ (List.mem_append_left _ (List.mem_append_right _ List.mem_cons_self))))))))))))
theorem m_12_q38 (G : Gx) (a : Nat) (u : S12) : ((((u.2.2.2.2.2.2.2.2.2.2.2.2.2.2.2.2.2.2.2.1), .inl (gCy G 0, 8, .inl (fun _ => 0))) : Nat × va_E)) ∈ Wc12 G a u := by unfold Wc12; exact (List.mem_cons_of_mem _ (List.mem_cons_of_mem _ (List.mem_cons_of_mem _ (List.mem_append_left _ (List.mem_append_left _ (List.mem_append_left _ (List.mem_append_left _ (List.mem_append_left _ (List.mem_append_left _ (List.mem_append_left _ (List.mem_append_right _ List.mem_cons_self)))))))))))
theorem m_12_q40 (G : Gx) (a : Nat) (u : S12) : ((((u.2.2.2.2.2.2.2.2.2.2.2.2.2.2.2.2.2.2.2.2.1), .inl (gCy G 0, 9, .inl (fun _ => 0))) : Nat × va_E)) ∈ Wc12 G a u := by unfold Wc12; exact (List.mem_cons_of_mem _ (List.mem_cons_of_mem _ (List.mem_cons_of_mem _ (List.mem_append_left _ (List.mem_append_left _ (List.mem_append_left _ (List.mem_append_left _ (List.mem_append_left _ (List.mem_append_left _ (List.mem_append_right _ List.mem_cons_self))))))))))
theorem m_12_q42 (G : Gx) (a : Nat) (u : S12) : ((((u.2.2.2.2.2.2.2.2.2.2.2.2.2.2.2.2.2.2.2.2.2.1), .inl (gCy G 1, 9, .inr (.inl (fun _ => 0)))) : Nat × va_E)) ∈ Wc12 G a u := by unfold Wc12; exact (List.mem_cons_of_mem _ (List.mem_cons_of_mem _ (List.mem_cons_of_mem _ (List.mem_append_left _ (List.mem_append_left _ (List.mem_append_left _ (List.mem_append_left _ (List.mem_append_left _ (List.mem_append_right _ List.mem_cons_self)))))))))
theorem m_12_q44 (G : Gx) (a : Nat) (u : S12) : ((((u.2.2.2.2.2.2.2.2.2.2.2.2.2.2.2.2.2.2.2.2.2.2.1), .inl (gCy G 0, 9512, .inl (fun _ => 0))) : Nat × va_E)) ∈ Wc12 G a u := by unfold Wc12; exact (List.mem_cons_of_mem _ (List.mem_cons_of_mem _ (List.mem_cons_of_mem _ (List.mem_append_left _ (List.mem_append_left _ (List.mem_append_left _ (List.mem_append_left _ (List.mem_append_right _ List.mem_cons_self))))))))
theorem m_12_q46 (G : Gx) (a : Nat) (u : S12) : ((((u.2.2.2.2.2.2.2.2.2.2.2.2.2.2.2.2.2.2.2.2.2.2.2.1), .inl (gCy G 0, 9512, .inl (fun _ => 0))) : Nat × va_E)) ∈ Wc12 G a u := by unfold Wc12; exact (List.mem_cons_of_mem _ (List.mem_cons_of_mem _ (List.mem_cons_of_mem _ (List.mem_append_left _ (List.mem_append_left _ (List.mem_append_left _ (List.mem_append_right _ List.mem_cons_self)))))))
theorem m_12_q48 (G : Gx) (a : Nat) (u : S12) : ((((u.2.2.2.2.2.2.2.2.2.2.2.2.2.2.2.2.2.2.2.2.2.2.2.2.1), .inl (gCy G 0, 10, .inl (fun _ => 0))) : Nat × va_E)) ∈ Wc12 G a u := by unfold Wc12; exact (List.mem_cons_of_mem _ (List.mem_cons_of_mem _ (List.mem_cons_of_mem _ (List.mem_append_left _ (List.mem_append_left _ (List.mem_append_right _ List.mem_cons_self))))))
theorem m_12_q51 (G : Gx) (a : Nat) (u : S12) : ((((u.2.2.2.2.2.2.2.2.2.2.2.2.2.2.2.2.2.2.2.2.2.2.2.2.2.2.1), .inl (gCy G 0, 4, .inl (fun _ => 0))) : Nat × va_E)) ∈ Wc12 G a u := by unfold Wc12; exact (List.mem_cons_of_mem _ (List.mem_cons_of_mem _ (List.mem_cons_of_mem _ (List.mem_append_left _ (List.mem_append_right _ List.mem_cons_self)))))
theorem m_12_q53 (G : Gx) (a : Nat) (u : S12) : ((((u.2.2.2.2.2.2.2.2.2.2.2.2.2.2.2.2.2.2.2.2.2.2.2.2.2.2.2), .inl (gCy G 1, 160, .inr (.inl (fun _ => 0)))) : Nat × va_E)) ∈ Wc12 G a u := by unfold Wc12; exact (List.mem_cons_of_mem _ (List.mem_cons_of_mem _ (List.mem_cons_of_mem _ (List.mem_append_right _ List.mem_cons_self))))
def Fc12 (a : Nat) (u : S12) : List Nat := a :: (u.1) :: (u.2.2.2.2.2.2.2.2.2.2.2.2.2.2.2.2.2.2.2.2.2.2.2.2.2.1) :: (((((((((((((((((((((((((([] ++ [(u.2.1)]) ++ [(u.2.2.1)]) ++ [(u.2.2.2.1)]) ++ [(u.2.2.2.2.1)]) ++ [(u.2.2.2.2.2.1)]) ++ [(u.2.2.2.2.2.2.1)]) ++ [(u.2.2.2.2.2.2.2.1)]) ++ [(u.2.2.2.2.2.2.2.2.1)]) ++ [(u.2.2.2.2.2.2.2.2.2.1)]) ++ [(u.2.2.2.2.2.2.2.2.2.2.1)]) ++ [(u.2.2.2.2.2.2.2.2.2.2.2.1)]) ++ [(u.2.2.2.2.2.2.2.2.2.2.2.2.1)]) ++ [(u.2.2.2.2.2.2.2.2.2.2.2.2.2.1)]) ++ [(u.2.2.2.2.2.2.2.2.2.2.2.2.2.2.1)]) ++ [(u.2.2.2.2.2.2.2.2.2.2.2.2.2.2.2.1)]) ++ [(u.2.2.2.2.2.2.2.2.2.2.2.2.2.2.2.2.1)]) ++ [(u.2.2.2.2.2.2.2.2.2.2.2.2.2.2.2.2.2.1)]) ++ [(u.2.2.2.2.2.2.2.2.2.2.2.2.2.2.2.2.2.2.1)]) ++ [(u.2.2.2.2.2.2.2.2.2.2.2.2.2.2.2.2.2.2.2.1)]) ++ [(u.2.2.2.2.2.2.2.2.2.2.2.2.2.2.2.2.2.2.2.2.1)]) ++ [(u.2.2.2.2.2.2.2.2.2.2.2.2.2.2.2.2.2.2.2.2.2.1)]) ++ [(u.2.2.2.2.2.2.2.2.2.2.2.2.2.2.2.2.2.2.2.2.2.2.1)]) ++ [(u.2.2.2.2.2.2.2.2.2.2.2.2.2.2.2.2.2.2.2.2.2.2.2.1)]) ++ [(u.2.2.2.2.2.2.2.2.2.2.2.2.2.2.2.2.2.2.2.2.2.2.2.2.1)]) ++ [(u.2.2.2.2.2.2.2.2.2.2.2.2.2.2.2.2.2.2.2.2.2.2.2.2.2.2.1)]) ++ [(u.2.2.2.2.2.2.2.2.2.2.2.2.2.2.2.2.2.2.2.2.2.2.2.2.2.2.2)])
theorem fst_12 (G : Gx) (a : Nat) (u : S12) : (Wc12 G a u).map Prod.fst = Fc12 a u := by
  unfold Wc12 Fc12
  simp only [List.map_append, List.map_cons, List.map_nil]
section STW
variable (D : va_G) (cy : Nat → ClassId) (sa sv : Nat → Nat) (sz q : Nat) (u : S11) (p : Nat) (v : S12)
theorem ef0 : EFs (gS D cy sa sv sz q u p v) h0 0 (SH 0) = .inr (11, [.ref (adF q u p v 1), .int 0, .ref (adF q u p v 2), .ref (adF q u p v 14), .ref (adF q u p v 20), .ref (adF q u p v 22), .ref (adF q u p v 24), .ref (adF q u p v 46), .ref (adF q u p v 55), .ref (adF q u p v 68), .ref (adF q u p v 73), .ref (adF q u p v 80), .ref (adF q u p v 87), .ref (adF q u p v 92), .ref (adF q u p v 96), .int 0]) := by
  show Sum.inr (11, (FT 11).mapIdx (fun k t => fvl (gS D cy sa sv sz q u p v) h0 0 k t)) = _
  simp only [FT, List.mapIdx_cons, List.mapIdx_nil]
  rfl
theorem ef98 : EFs (gS D cy sa sv sz q u p v) h0 98 (SH 98) = .inr (12, [.int 0, .ref (adF q u p v 99), .ref (adF q u p v 100), .ref (adF q u p v 101), .ref (adF q u p v 102), .int 0, .int 0, .int 0, .int 0, .int 0, .int 0, .int 0, .int 0, .int 0, .int (-1), .ref (adF q u p v 103), .ref (adF q u p v 104), .ref (adF q u p v 105), .ref (adF q u p v 106), .ref (adF q u p v 107), .ref (adF q u p v 108), .ref (adF q u p v 109), .int 0, .int 0, .ref (adF q u p v 110), .ref (adF q u p v 111), .ref (adF q u p v 112), .ref (adF q u p v 113), .int 0, .ref (adF q u p v 114), .ref (adF q u p v 115), .ref (adF q u p v 116), .ref (adF q u p v 117), .ref (adF q u p v 118), .ref (adF q u p v 119), .ref (adF q u p v 120), .int 0, .int 0, .ref (adF q u p v 121), .ref (adF q u p v 122), .ref (adF q u p v 123), .long 0, .long 0, .ref (adF q u p v 124), .ref (adF q u p v 125), .ref (adF q u p v 126)]) := by
  show Sum.inr (12, (FT 12).mapIdx (fun k t => fvl (gS D cy sa sv sz q u p v) h0 98 k t)) = _
  simp only [FT, List.mapIdx_cons, List.mapIdx_nil]
  rfl
theorem st_o0 : ((adF q u p v 0, EFs (gS D cy sa sv sz q u p v) h0 0 (SH 0)) : Nat × va_E) ∈ Wc11 (gS D cy sa sv sz q u p v) q u ++ Wc12 (gS D cy sa sv sz q u p v) p v := by rw [ef0]; exact List.mem_append_left _ (m_11_this _ _ _)
theorem st_o1 : ((adF q u p v 1, EFs (gS D cy sa sv sz q u p v) h0 1 (SH 1)) : Nat × va_E) ∈ Wc11 (gS D cy sa sv sz q u p v) q u ++ Wc12 (gS D cy sa sv sz q u p v) p v := List.mem_append_left _ (m_11_q1 _ _ _)
theorem st_o2 : ((adF q u p v 2, EFs (gS D cy sa sv sz q u p v) h0 2 (SH 2)) : Nat × va_E) ∈ Wc11 (gS D cy sa sv sz q u p v) q u ++ Wc12 (gS D cy sa sv sz q u p v) p v := List.mem_append_left _ (m_11_q3 _ _ _ (m_5_this _ _ _))
theorem st_o3 : ((adF q u p v 3, EFs (gS D cy sa sv sz q u p v) h0 3 (SH 3)) : Nat × va_E) ∈ Wc11 (gS D cy sa sv sz q u p v) q u ++ Wc12 (gS D cy sa sv sz q u p v) p v := List.mem_append_left _ (m_11_q3 _ _ _ (m_5_q1 _ _ _ (m_9_this _ _ _)))
theorem st_o4 : ((adF q u p v 4, EFs (gS D cy sa sv sz q u p v) h0 4 (SH 4)) : Nat × va_E) ∈ Wc11 (gS D cy sa sv sz q u p v) q u ++ Wc12 (gS D cy sa sv sz q u p v) p v := List.mem_append_left _ (m_11_q3 _ _ _ (m_5_q3 _ _ _ (m_3_this _ _ _)))
theorem st_o5 : ((adF q u p v 5, EFs (gS D cy sa sv sz q u p v) h0 5 (SH 5)) : Nat × va_E) ∈ Wc11 (gS D cy sa sv sz q u p v) q u ++ Wc12 (gS D cy sa sv sz q u p v) p v := List.mem_append_left _ (m_11_q3 _ _ _ (m_5_q3 _ _ _ (m_3_q1 _ _ _)))
theorem st_o6 : ((adF q u p v 6, EFs (gS D cy sa sv sz q u p v) h0 6 (SH 6)) : Nat × va_E) ∈ Wc11 (gS D cy sa sv sz q u p v) q u ++ Wc12 (gS D cy sa sv sz q u p v) p v := List.mem_append_left _ (m_11_q3 _ _ _ (m_5_q3 _ _ _ (m_3_q2 _ _ _)))
theorem st_o7 : ((adF q u p v 7, EFs (gS D cy sa sv sz q u p v) h0 7 (SH 7)) : Nat × va_E) ∈ Wc11 (gS D cy sa sv sz q u p v) q u ++ Wc12 (gS D cy sa sv sz q u p v) p v := List.mem_append_left _ (m_11_q3 _ _ _ (m_5_q5 _ _ _ (m_3_this _ _ _)))
theorem st_o8 : ((adF q u p v 8, EFs (gS D cy sa sv sz q u p v) h0 8 (SH 8)) : Nat × va_E) ∈ Wc11 (gS D cy sa sv sz q u p v) q u ++ Wc12 (gS D cy sa sv sz q u p v) p v := List.mem_append_left _ (m_11_q3 _ _ _ (m_5_q5 _ _ _ (m_3_q1 _ _ _)))
theorem st_o9 : ((adF q u p v 9, EFs (gS D cy sa sv sz q u p v) h0 9 (SH 9)) : Nat × va_E) ∈ Wc11 (gS D cy sa sv sz q u p v) q u ++ Wc12 (gS D cy sa sv sz q u p v) p v := List.mem_append_left _ (m_11_q3 _ _ _ (m_5_q5 _ _ _ (m_3_q2 _ _ _)))
theorem st_o10 : ((adF q u p v 10, EFs (gS D cy sa sv sz q u p v) h0 10 (SH 10)) : Nat × va_E) ∈ Wc11 (gS D cy sa sv sz q u p v) q u ++ Wc12 (gS D cy sa sv sz q u p v) p v := List.mem_append_left _ (m_11_q3 _ _ _ (m_5_q7 _ _ _))
theorem st_o11 : ((adF q u p v 11, EFs (gS D cy sa sv sz q u p v) h0 11 (SH 11)) : Nat × va_E) ∈ Wc11 (gS D cy sa sv sz q u p v) q u ++ Wc12 (gS D cy sa sv sz q u p v) p v := List.mem_append_left _ (m_11_q3 _ _ _ (m_5_q8 _ _ _))
theorem st_o12 : ((adF q u p v 12, EFs (gS D cy sa sv sz q u p v) h0 12 (SH 12)) : Nat × va_E) ∈ Wc11 (gS D cy sa sv sz q u p v) q u ++ Wc12 (gS D cy sa sv sz q u p v) p v := List.mem_append_left _ (m_11_q3 _ _ _ (m_5_q9 _ _ _))
theorem st_o13 : ((adF q u p v 13, EFs (gS D cy sa sv sz q u p v) h0 13 (SH 13)) : Nat × va_E) ∈ Wc11 (gS D cy sa sv sz q u p v) q u ++ Wc12 (gS D cy sa sv sz q u p v) p v := List.mem_append_left _ (m_11_q3 _ _ _ (m_5_q10 _ _ _))
theorem st_o14 : ((adF q u p v 14, EFs (gS D cy sa sv sz q u p v) h0 14 (SH 14)) : Nat × va_E) ∈ Wc11 (gS D cy sa sv sz q u p v) q u ++ Wc12 (gS D cy sa sv sz q u p v) p v := List.mem_append_left _ (m_11_q6 _ _ _ (m_2_this _ _ _))
theorem st_o15 : ((adF q u p v 15, EFs (gS D cy sa sv sz q u p v) h0 15 (SH 15)) : Nat × va_E) ∈ Wc11 (gS D cy sa sv sz q u p v) q u ++ Wc12 (gS D cy sa sv sz q u p v) p v := List.mem_append_left _ (m_11_q6 _ _ _ (m_2_q1 _ _ _))
theorem st_o16 : ((adF q u p v 16, EFs (gS D cy sa sv sz q u p v) h0 16 (SH 16)) : Nat × va_E) ∈ Wc11 (gS D cy sa sv sz q u p v) q u ++ Wc12 (gS D cy sa sv sz q u p v) p v := List.mem_append_left _ (m_11_q6 _ _ _ (m_2_q2 _ _ _))
theorem st_o17 : ((adF q u p v 17, EFs (gS D cy sa sv sz q u p v) h0 17 (SH 17)) : Nat × va_E) ∈ Wc11 (gS D cy sa sv sz q u p v) q u ++ Wc12 (gS D cy sa sv sz q u p v) p v := List.mem_append_left _ (m_11_q6 _ _ _ (m_2_q3 _ _ _))
theorem st_o18 : ((adF q u p v 18, EFs (gS D cy sa sv sz q u p v) h0 18 (SH 18)) : Nat × va_E) ∈ Wc11 (gS D cy sa sv sz q u p v) q u ++ Wc12 (gS D cy sa sv sz q u p v) p v := List.mem_append_left _ (m_11_q6 _ _ _ (m_2_q4 _ _ _))
theorem st_o19 : ((adF q u p v 19, EFs (gS D cy sa sv sz q u p v) h0 19 (SH 19)) : Nat × va_E) ∈ Wc11 (gS D cy sa sv sz q u p v) q u ++ Wc12 (gS D cy sa sv sz q u p v) p v := List.mem_append_left _ (m_11_q6 _ _ _ (m_2_q5 _ _ _))
theorem st_o20 : ((adF q u p v 20, EFs (gS D cy sa sv sz q u p v) h0 20 (SH 20)) : Nat × va_E) ∈ Wc11 (gS D cy sa sv sz q u p v) q u ++ Wc12 (gS D cy sa sv sz q u p v) p v := List.mem_append_left _ (m_11_q9 _ _ _ (m_6_this _ _ _))
theorem st_o21 : ((adF q u p v 21, EFs (gS D cy sa sv sz q u p v) h0 21 (SH 21)) : Nat × va_E) ∈ Wc11 (gS D cy sa sv sz q u p v) q u ++ Wc12 (gS D cy sa sv sz q u p v) p v := List.mem_append_left _ (m_11_q9 _ _ _ (m_6_q1 _ _ _))
theorem st_o22 : ((adF q u p v 22, EFs (gS D cy sa sv sz q u p v) h0 22 (SH 22)) : Nat × va_E) ∈ Wc11 (gS D cy sa sv sz q u p v) q u ++ Wc12 (gS D cy sa sv sz q u p v) p v := List.mem_append_left _ (m_11_q12 _ _ _ (m_6_this _ _ _))
theorem st_o23 : ((adF q u p v 23, EFs (gS D cy sa sv sz q u p v) h0 23 (SH 23)) : Nat × va_E) ∈ Wc11 (gS D cy sa sv sz q u p v) q u ++ Wc12 (gS D cy sa sv sz q u p v) p v := List.mem_append_left _ (m_11_q12 _ _ _ (m_6_q1 _ _ _))
theorem st_o24 : ((adF q u p v 24, EFs (gS D cy sa sv sz q u p v) h0 24 (SH 24)) : Nat × va_E) ∈ Wc11 (gS D cy sa sv sz q u p v) q u ++ Wc12 (gS D cy sa sv sz q u p v) p v := List.mem_append_left _ (m_11_q15 _ _ _ (m_4_this _ _ _))
theorem st_o25 : ((adF q u p v 25, .inl (cy 5, 10, .inr (.inr (.inr (.inr (va_up (va_up (va_up (va_up (va_up (va_up (va_up (va_up (va_up (va_up (fun _ => none) 0 (some (adF q u p v 26))) 1 (some (adF q u p v 28))) 2 (some (adF q u p v 30))) 3 (some (adF q u p v 32))) 4 (some (adF q u p v 34))) 5 (some (adF q u p v 36))) 6 (some (adF q u p v 38))) 7 (some (adF q u p v 40))) 8 (some (adF q u p v 42))) 9 (some (adF q u p v 44)))))))) : Nat × va_E) ∈ Wc11 (gS D cy sa sv sz q u p v) q u ++ Wc12 (gS D cy sa sv sz q u p v) p v := List.mem_append_left _ (m_11_q15 _ _ _ (m_4_q1 _ _ _))
theorem st_o26 : ((adF q u p v 26, EFs (gS D cy sa sv sz q u p v) h0 26 (SH 26)) : Nat × va_E) ∈ Wc11 (gS D cy sa sv sz q u p v) q u ++ Wc12 (gS D cy sa sv sz q u p v) p v := List.mem_append_left _ (m_11_q15 _ _ _ (m_4_q2 _ _ _ (m_6_this _ _ _)))
theorem st_o27 : ((adF q u p v 27, EFs (gS D cy sa sv sz q u p v) h0 27 (SH 27)) : Nat × va_E) ∈ Wc11 (gS D cy sa sv sz q u p v) q u ++ Wc12 (gS D cy sa sv sz q u p v) p v := List.mem_append_left _ (m_11_q15 _ _ _ (m_4_q2 _ _ _ (m_6_q1 _ _ _)))
theorem st_o28 : ((adF q u p v 28, EFs (gS D cy sa sv sz q u p v) h0 28 (SH 28)) : Nat × va_E) ∈ Wc11 (gS D cy sa sv sz q u p v) q u ++ Wc12 (gS D cy sa sv sz q u p v) p v := List.mem_append_left _ (m_11_q15 _ _ _ (m_4_q4 _ _ _ (m_6_this _ _ _)))
theorem st_o29 : ((adF q u p v 29, EFs (gS D cy sa sv sz q u p v) h0 29 (SH 29)) : Nat × va_E) ∈ Wc11 (gS D cy sa sv sz q u p v) q u ++ Wc12 (gS D cy sa sv sz q u p v) p v := List.mem_append_left _ (m_11_q15 _ _ _ (m_4_q4 _ _ _ (m_6_q1 _ _ _)))
theorem st_o30 : ((adF q u p v 30, EFs (gS D cy sa sv sz q u p v) h0 30 (SH 30)) : Nat × va_E) ∈ Wc11 (gS D cy sa sv sz q u p v) q u ++ Wc12 (gS D cy sa sv sz q u p v) p v := List.mem_append_left _ (m_11_q15 _ _ _ (m_4_q6 _ _ _ (m_6_this _ _ _)))
theorem st_o31 : ((adF q u p v 31, EFs (gS D cy sa sv sz q u p v) h0 31 (SH 31)) : Nat × va_E) ∈ Wc11 (gS D cy sa sv sz q u p v) q u ++ Wc12 (gS D cy sa sv sz q u p v) p v := List.mem_append_left _ (m_11_q15 _ _ _ (m_4_q6 _ _ _ (m_6_q1 _ _ _)))
theorem st_o32 : ((adF q u p v 32, EFs (gS D cy sa sv sz q u p v) h0 32 (SH 32)) : Nat × va_E) ∈ Wc11 (gS D cy sa sv sz q u p v) q u ++ Wc12 (gS D cy sa sv sz q u p v) p v := List.mem_append_left _ (m_11_q15 _ _ _ (m_4_q8 _ _ _ (m_6_this _ _ _)))
theorem st_o33 : ((adF q u p v 33, EFs (gS D cy sa sv sz q u p v) h0 33 (SH 33)) : Nat × va_E) ∈ Wc11 (gS D cy sa sv sz q u p v) q u ++ Wc12 (gS D cy sa sv sz q u p v) p v := List.mem_append_left _ (m_11_q15 _ _ _ (m_4_q8 _ _ _ (m_6_q1 _ _ _)))
theorem st_o34 : ((adF q u p v 34, EFs (gS D cy sa sv sz q u p v) h0 34 (SH 34)) : Nat × va_E) ∈ Wc11 (gS D cy sa sv sz q u p v) q u ++ Wc12 (gS D cy sa sv sz q u p v) p v := List.mem_append_left _ (m_11_q15 _ _ _ (m_4_q10 _ _ _ (m_6_this _ _ _)))
theorem st_o35 : ((adF q u p v 35, EFs (gS D cy sa sv sz q u p v) h0 35 (SH 35)) : Nat × va_E) ∈ Wc11 (gS D cy sa sv sz q u p v) q u ++ Wc12 (gS D cy sa sv sz q u p v) p v := List.mem_append_left _ (m_11_q15 _ _ _ (m_4_q10 _ _ _ (m_6_q1 _ _ _)))
theorem st_o36 : ((adF q u p v 36, EFs (gS D cy sa sv sz q u p v) h0 36 (SH 36)) : Nat × va_E) ∈ Wc11 (gS D cy sa sv sz q u p v) q u ++ Wc12 (gS D cy sa sv sz q u p v) p v := List.mem_append_left _ (m_11_q15 _ _ _ (m_4_q12 _ _ _ (m_6_this _ _ _)))
theorem st_o37 : ((adF q u p v 37, EFs (gS D cy sa sv sz q u p v) h0 37 (SH 37)) : Nat × va_E) ∈ Wc11 (gS D cy sa sv sz q u p v) q u ++ Wc12 (gS D cy sa sv sz q u p v) p v := List.mem_append_left _ (m_11_q15 _ _ _ (m_4_q12 _ _ _ (m_6_q1 _ _ _)))
theorem st_o38 : ((adF q u p v 38, EFs (gS D cy sa sv sz q u p v) h0 38 (SH 38)) : Nat × va_E) ∈ Wc11 (gS D cy sa sv sz q u p v) q u ++ Wc12 (gS D cy sa sv sz q u p v) p v := List.mem_append_left _ (m_11_q15 _ _ _ (m_4_q14 _ _ _ (m_6_this _ _ _)))
theorem st_o39 : ((adF q u p v 39, EFs (gS D cy sa sv sz q u p v) h0 39 (SH 39)) : Nat × va_E) ∈ Wc11 (gS D cy sa sv sz q u p v) q u ++ Wc12 (gS D cy sa sv sz q u p v) p v := List.mem_append_left _ (m_11_q15 _ _ _ (m_4_q14 _ _ _ (m_6_q1 _ _ _)))
theorem st_o40 : ((adF q u p v 40, EFs (gS D cy sa sv sz q u p v) h0 40 (SH 40)) : Nat × va_E) ∈ Wc11 (gS D cy sa sv sz q u p v) q u ++ Wc12 (gS D cy sa sv sz q u p v) p v := List.mem_append_left _ (m_11_q15 _ _ _ (m_4_q16 _ _ _ (m_6_this _ _ _)))
theorem st_o41 : ((adF q u p v 41, EFs (gS D cy sa sv sz q u p v) h0 41 (SH 41)) : Nat × va_E) ∈ Wc11 (gS D cy sa sv sz q u p v) q u ++ Wc12 (gS D cy sa sv sz q u p v) p v := List.mem_append_left _ (m_11_q15 _ _ _ (m_4_q16 _ _ _ (m_6_q1 _ _ _)))
theorem st_o42 : ((adF q u p v 42, EFs (gS D cy sa sv sz q u p v) h0 42 (SH 42)) : Nat × va_E) ∈ Wc11 (gS D cy sa sv sz q u p v) q u ++ Wc12 (gS D cy sa sv sz q u p v) p v := List.mem_append_left _ (m_11_q15 _ _ _ (m_4_q18 _ _ _ (m_6_this _ _ _)))
theorem st_o43 : ((adF q u p v 43, EFs (gS D cy sa sv sz q u p v) h0 43 (SH 43)) : Nat × va_E) ∈ Wc11 (gS D cy sa sv sz q u p v) q u ++ Wc12 (gS D cy sa sv sz q u p v) p v := List.mem_append_left _ (m_11_q15 _ _ _ (m_4_q18 _ _ _ (m_6_q1 _ _ _)))
theorem st_o44 : ((adF q u p v 44, EFs (gS D cy sa sv sz q u p v) h0 44 (SH 44)) : Nat × va_E) ∈ Wc11 (gS D cy sa sv sz q u p v) q u ++ Wc12 (gS D cy sa sv sz q u p v) p v := List.mem_append_left _ (m_11_q15 _ _ _ (m_4_q20 _ _ _ (m_6_this _ _ _)))
theorem st_o45 : ((adF q u p v 45, EFs (gS D cy sa sv sz q u p v) h0 45 (SH 45)) : Nat × va_E) ∈ Wc11 (gS D cy sa sv sz q u p v) q u ++ Wc12 (gS D cy sa sv sz q u p v) p v := List.mem_append_left _ (m_11_q15 _ _ _ (m_4_q20 _ _ _ (m_6_q1 _ _ _)))
theorem st_o46 : ((adF q u p v 46, .inl (cy 6, 4, .inr (.inr (.inr (.inr (va_up (va_up (va_up (va_up (fun _ => none) 0 (some (adF q u p v 47))) 1 (some (adF q u p v 49))) 2 (some (adF q u p v 51))) 3 (some (adF q u p v 53)))))))) : Nat × va_E) ∈ Wc11 (gS D cy sa sv sz q u p v) q u ++ Wc12 (gS D cy sa sv sz q u p v) p v := List.mem_append_left _ (m_11_q18 _ _ _)
theorem st_o47 : ((adF q u p v 47, EFs (gS D cy sa sv sz q u p v) h0 47 (SH 47)) : Nat × va_E) ∈ Wc11 (gS D cy sa sv sz q u p v) q u ++ Wc12 (gS D cy sa sv sz q u p v) p v := List.mem_append_left _ (m_11_q35 _ _ _ (m_10_this _ _ _))
theorem st_o48 : ((adF q u p v 48, EFs (gS D cy sa sv sz q u p v) h0 48 (SH 48)) : Nat × va_E) ∈ Wc11 (gS D cy sa sv sz q u p v) q u ++ Wc12 (gS D cy sa sv sz q u p v) p v := List.mem_append_left _ (m_11_q35 _ _ _ (m_10_q1 _ _ _))
theorem st_o49 : ((adF q u p v 49, EFs (gS D cy sa sv sz q u p v) h0 49 (SH 49)) : Nat × va_E) ∈ Wc11 (gS D cy sa sv sz q u p v) q u ++ Wc12 (gS D cy sa sv sz q u p v) p v := List.mem_append_left _ (m_11_q38 _ _ _ (m_10_this _ _ _))
theorem st_o50 : ((adF q u p v 50, EFs (gS D cy sa sv sz q u p v) h0 50 (SH 50)) : Nat × va_E) ∈ Wc11 (gS D cy sa sv sz q u p v) q u ++ Wc12 (gS D cy sa sv sz q u p v) p v := List.mem_append_left _ (m_11_q38 _ _ _ (m_10_q1 _ _ _))
theorem st_o51 : ((adF q u p v 51, EFs (gS D cy sa sv sz q u p v) h0 51 (SH 51)) : Nat × va_E) ∈ Wc11 (gS D cy sa sv sz q u p v) q u ++ Wc12 (gS D cy sa sv sz q u p v) p v := List.mem_append_left _ (m_11_q41 _ _ _ (m_10_this _ _ _))
theorem st_o52 : ((adF q u p v 52, EFs (gS D cy sa sv sz q u p v) h0 52 (SH 52)) : Nat × va_E) ∈ Wc11 (gS D cy sa sv sz q u p v) q u ++ Wc12 (gS D cy sa sv sz q u p v) p v := List.mem_append_left _ (m_11_q41 _ _ _ (m_10_q1 _ _ _))
theorem st_o53 : ((adF q u p v 53, EFs (gS D cy sa sv sz q u p v) h0 53 (SH 53)) : Nat × va_E) ∈ Wc11 (gS D cy sa sv sz q u p v) q u ++ Wc12 (gS D cy sa sv sz q u p v) p v := List.mem_append_left _ (m_11_q44 _ _ _ (m_10_this _ _ _))
theorem st_o54 : ((adF q u p v 54, EFs (gS D cy sa sv sz q u p v) h0 54 (SH 54)) : Nat × va_E) ∈ Wc11 (gS D cy sa sv sz q u p v) q u ++ Wc12 (gS D cy sa sv sz q u p v) p v := List.mem_append_left _ (m_11_q44 _ _ _ (m_10_q1 _ _ _))
theorem st_o55 : ((adF q u p v 55, .inl (cy 4, 2, .inr (.inr (.inr (.inr (va_up (va_up (fun _ => none) 0 (some (adF q u p v 56))) 1 (some (adF q u p v 62)))))))) : Nat × va_E) ∈ Wc11 (gS D cy sa sv sz q u p v) q u ++ Wc12 (gS D cy sa sv sz q u p v) p v := List.mem_append_left _ (m_11_q19 _ _ _)
theorem st_o56 : ((adF q u p v 56, EFs (gS D cy sa sv sz q u p v) h0 56 (SH 56)) : Nat × va_E) ∈ Wc11 (gS D cy sa sv sz q u p v) q u ++ Wc12 (gS D cy sa sv sz q u p v) p v := List.mem_append_left _ (m_11_q47 _ _ _ (m_2_this _ _ _))
theorem st_o57 : ((adF q u p v 57, EFs (gS D cy sa sv sz q u p v) h0 57 (SH 57)) : Nat × va_E) ∈ Wc11 (gS D cy sa sv sz q u p v) q u ++ Wc12 (gS D cy sa sv sz q u p v) p v := List.mem_append_left _ (m_11_q47 _ _ _ (m_2_q1 _ _ _))
theorem st_o58 : ((adF q u p v 58, EFs (gS D cy sa sv sz q u p v) h0 58 (SH 58)) : Nat × va_E) ∈ Wc11 (gS D cy sa sv sz q u p v) q u ++ Wc12 (gS D cy sa sv sz q u p v) p v := List.mem_append_left _ (m_11_q47 _ _ _ (m_2_q2 _ _ _))
theorem st_o59 : ((adF q u p v 59, EFs (gS D cy sa sv sz q u p v) h0 59 (SH 59)) : Nat × va_E) ∈ Wc11 (gS D cy sa sv sz q u p v) q u ++ Wc12 (gS D cy sa sv sz q u p v) p v := List.mem_append_left _ (m_11_q47 _ _ _ (m_2_q3 _ _ _))
theorem st_o60 : ((adF q u p v 60, EFs (gS D cy sa sv sz q u p v) h0 60 (SH 60)) : Nat × va_E) ∈ Wc11 (gS D cy sa sv sz q u p v) q u ++ Wc12 (gS D cy sa sv sz q u p v) p v := List.mem_append_left _ (m_11_q47 _ _ _ (m_2_q4 _ _ _))
theorem st_o61 : ((adF q u p v 61, EFs (gS D cy sa sv sz q u p v) h0 61 (SH 61)) : Nat × va_E) ∈ Wc11 (gS D cy sa sv sz q u p v) q u ++ Wc12 (gS D cy sa sv sz q u p v) p v := List.mem_append_left _ (m_11_q47 _ _ _ (m_2_q5 _ _ _))
theorem st_o62 : ((adF q u p v 62, EFs (gS D cy sa sv sz q u p v) h0 62 (SH 62)) : Nat × va_E) ∈ Wc11 (gS D cy sa sv sz q u p v) q u ++ Wc12 (gS D cy sa sv sz q u p v) p v := List.mem_append_left _ (m_11_q53 _ _ _ (m_2_this _ _ _))
theorem st_o63 : ((adF q u p v 63, EFs (gS D cy sa sv sz q u p v) h0 63 (SH 63)) : Nat × va_E) ∈ Wc11 (gS D cy sa sv sz q u p v) q u ++ Wc12 (gS D cy sa sv sz q u p v) p v := List.mem_append_left _ (m_11_q53 _ _ _ (m_2_q1 _ _ _))
theorem st_o64 : ((adF q u p v 64, EFs (gS D cy sa sv sz q u p v) h0 64 (SH 64)) : Nat × va_E) ∈ Wc11 (gS D cy sa sv sz q u p v) q u ++ Wc12 (gS D cy sa sv sz q u p v) p v := List.mem_append_left _ (m_11_q53 _ _ _ (m_2_q2 _ _ _))
theorem st_o65 : ((adF q u p v 65, EFs (gS D cy sa sv sz q u p v) h0 65 (SH 65)) : Nat × va_E) ∈ Wc11 (gS D cy sa sv sz q u p v) q u ++ Wc12 (gS D cy sa sv sz q u p v) p v := List.mem_append_left _ (m_11_q53 _ _ _ (m_2_q3 _ _ _))
theorem st_o66 : ((adF q u p v 66, EFs (gS D cy sa sv sz q u p v) h0 66 (SH 66)) : Nat × va_E) ∈ Wc11 (gS D cy sa sv sz q u p v) q u ++ Wc12 (gS D cy sa sv sz q u p v) p v := List.mem_append_left _ (m_11_q53 _ _ _ (m_2_q4 _ _ _))
theorem st_o67 : ((adF q u p v 67, EFs (gS D cy sa sv sz q u p v) h0 67 (SH 67)) : Nat × va_E) ∈ Wc11 (gS D cy sa sv sz q u p v) q u ++ Wc12 (gS D cy sa sv sz q u p v) p v := List.mem_append_left _ (m_11_q53 _ _ _ (m_2_q5 _ _ _))
theorem st_o68 : ((adF q u p v 68, .inl (cy 5, 2, .inr (.inr (.inr (.inr (va_up (va_up (fun _ => none) 0 (some (adF q u p v 69))) 1 (some (adF q u p v 71)))))))) : Nat × va_E) ∈ Wc11 (gS D cy sa sv sz q u p v) q u ++ Wc12 (gS D cy sa sv sz q u p v) p v := List.mem_append_left _ (m_11_q20 _ _ _)
theorem st_o69 : ((adF q u p v 69, EFs (gS D cy sa sv sz q u p v) h0 69 (SH 69)) : Nat × va_E) ∈ Wc11 (gS D cy sa sv sz q u p v) q u ++ Wc12 (gS D cy sa sv sz q u p v) p v := List.mem_append_left _ (m_11_q50 _ _ _ (m_6_this _ _ _))
theorem st_o70 : ((adF q u p v 70, EFs (gS D cy sa sv sz q u p v) h0 70 (SH 70)) : Nat × va_E) ∈ Wc11 (gS D cy sa sv sz q u p v) q u ++ Wc12 (gS D cy sa sv sz q u p v) p v := List.mem_append_left _ (m_11_q50 _ _ _ (m_6_q1 _ _ _))
theorem st_o71 : ((adF q u p v 71, EFs (gS D cy sa sv sz q u p v) h0 71 (SH 71)) : Nat × va_E) ∈ Wc11 (gS D cy sa sv sz q u p v) q u ++ Wc12 (gS D cy sa sv sz q u p v) p v := List.mem_append_left _ (m_11_q56 _ _ _ (m_6_this _ _ _))
theorem st_o72 : ((adF q u p v 72, EFs (gS D cy sa sv sz q u p v) h0 72 (SH 72)) : Nat × va_E) ∈ Wc11 (gS D cy sa sv sz q u p v) q u ++ Wc12 (gS D cy sa sv sz q u p v) p v := List.mem_append_left _ (m_11_q56 _ _ _ (m_6_q1 _ _ _))
theorem st_o73 : ((adF q u p v 73, EFs (gS D cy sa sv sz q u p v) h0 73 (SH 73)) : Nat × va_E) ∈ Wc11 (gS D cy sa sv sz q u p v) q u ++ Wc12 (gS D cy sa sv sz q u p v) p v := List.mem_append_left _ (m_11_q21 _ _ _ (m_8_this _ _ _))
theorem st_o74 : ((adF q u p v 74, EFs (gS D cy sa sv sz q u p v) h0 74 (SH 74)) : Nat × va_E) ∈ Wc11 (gS D cy sa sv sz q u p v) q u ++ Wc12 (gS D cy sa sv sz q u p v) p v := List.mem_append_left _ (m_11_q21 _ _ _ (m_8_q1 _ _ _))
theorem st_o75 : ((adF q u p v 75, EFs (gS D cy sa sv sz q u p v) h0 75 (SH 75)) : Nat × va_E) ∈ Wc11 (gS D cy sa sv sz q u p v) q u ++ Wc12 (gS D cy sa sv sz q u p v) p v := List.mem_append_left _ (m_11_q21 _ _ _ (m_8_q2 _ _ _))
theorem st_o76 : ((adF q u p v 76, EFs (gS D cy sa sv sz q u p v) h0 76 (SH 76)) : Nat × va_E) ∈ Wc11 (gS D cy sa sv sz q u p v) q u ++ Wc12 (gS D cy sa sv sz q u p v) p v := List.mem_append_left _ (m_11_q21 _ _ _ (m_8_q3 _ _ _))
theorem st_o77 : ((adF q u p v 77, EFs (gS D cy sa sv sz q u p v) h0 77 (SH 77)) : Nat × va_E) ∈ Wc11 (gS D cy sa sv sz q u p v) q u ++ Wc12 (gS D cy sa sv sz q u p v) p v := List.mem_append_left _ (m_11_q21 _ _ _ (m_8_q4 _ _ _))
theorem st_o78 : ((adF q u p v 78, EFs (gS D cy sa sv sz q u p v) h0 78 (SH 78)) : Nat × va_E) ∈ Wc11 (gS D cy sa sv sz q u p v) q u ++ Wc12 (gS D cy sa sv sz q u p v) p v := List.mem_append_left _ (m_11_q21 _ _ _ (m_8_q5 _ _ _))
theorem st_o79 : ((adF q u p v 79, EFs (gS D cy sa sv sz q u p v) h0 79 (SH 79)) : Nat × va_E) ∈ Wc11 (gS D cy sa sv sz q u p v) q u ++ Wc12 (gS D cy sa sv sz q u p v) p v := List.mem_append_left _ (m_11_q21 _ _ _ (m_8_q6 _ _ _))
theorem st_o80 : ((adF q u p v 80, EFs (gS D cy sa sv sz q u p v) h0 80 (SH 80)) : Nat × va_E) ∈ Wc11 (gS D cy sa sv sz q u p v) q u ++ Wc12 (gS D cy sa sv sz q u p v) p v := List.mem_append_left _ (m_11_q24 _ _ _ (m_0_this _ _ _))
theorem st_o81 : ((adF q u p v 81, EFs (gS D cy sa sv sz q u p v) h0 81 (SH 81)) : Nat × va_E) ∈ Wc11 (gS D cy sa sv sz q u p v) q u ++ Wc12 (gS D cy sa sv sz q u p v) p v := List.mem_append_left _ (m_11_q24 _ _ _ (m_0_q1 _ _ _))
theorem st_o82 : ((adF q u p v 82, EFs (gS D cy sa sv sz q u p v) h0 82 (SH 82)) : Nat × va_E) ∈ Wc11 (gS D cy sa sv sz q u p v) q u ++ Wc12 (gS D cy sa sv sz q u p v) p v := List.mem_append_left _ (m_11_q24 _ _ _ (m_0_q2 _ _ _))
theorem st_o83 : ((adF q u p v 83, EFs (gS D cy sa sv sz q u p v) h0 83 (SH 83)) : Nat × va_E) ∈ Wc11 (gS D cy sa sv sz q u p v) q u ++ Wc12 (gS D cy sa sv sz q u p v) p v := List.mem_append_left _ (m_11_q24 _ _ _ (m_0_q3 _ _ _))
theorem st_o84 : ((adF q u p v 84, EFs (gS D cy sa sv sz q u p v) h0 84 (SH 84)) : Nat × va_E) ∈ Wc11 (gS D cy sa sv sz q u p v) q u ++ Wc12 (gS D cy sa sv sz q u p v) p v := List.mem_append_left _ (m_11_q24 _ _ _ (m_0_q4 _ _ _))
theorem st_o85 : ((adF q u p v 85, EFs (gS D cy sa sv sz q u p v) h0 85 (SH 85)) : Nat × va_E) ∈ Wc11 (gS D cy sa sv sz q u p v) q u ++ Wc12 (gS D cy sa sv sz q u p v) p v := List.mem_append_left _ (m_11_q24 _ _ _ (m_0_q5 _ _ _))
theorem st_o86 : ((adF q u p v 86, EFs (gS D cy sa sv sz q u p v) h0 86 (SH 86)) : Nat × va_E) ∈ Wc11 (gS D cy sa sv sz q u p v) q u ++ Wc12 (gS D cy sa sv sz q u p v) p v := List.mem_append_left _ (m_11_q24 _ _ _ (m_0_q6 _ _ _))
theorem st_o87 : ((adF q u p v 87, EFs (gS D cy sa sv sz q u p v) h0 87 (SH 87)) : Nat × va_E) ∈ Wc11 (gS D cy sa sv sz q u p v) q u ++ Wc12 (gS D cy sa sv sz q u p v) p v := List.mem_append_left _ (m_11_q27 _ _ _ (m_1_this _ _ _))
theorem st_o88 : ((adF q u p v 88, EFs (gS D cy sa sv sz q u p v) h0 88 (SH 88)) : Nat × va_E) ∈ Wc11 (gS D cy sa sv sz q u p v) q u ++ Wc12 (gS D cy sa sv sz q u p v) p v := List.mem_append_left _ (m_11_q27 _ _ _ (m_1_q1 _ _ _))
theorem st_o89 : ((adF q u p v 89, EFs (gS D cy sa sv sz q u p v) h0 89 (SH 89)) : Nat × va_E) ∈ Wc11 (gS D cy sa sv sz q u p v) q u ++ Wc12 (gS D cy sa sv sz q u p v) p v := List.mem_append_left _ (m_11_q27 _ _ _ (m_1_q2 _ _ _))
theorem st_o90 : ((adF q u p v 90, EFs (gS D cy sa sv sz q u p v) h0 90 (SH 90)) : Nat × va_E) ∈ Wc11 (gS D cy sa sv sz q u p v) q u ++ Wc12 (gS D cy sa sv sz q u p v) p v := List.mem_append_left _ (m_11_q27 _ _ _ (m_1_q3 _ _ _))
theorem st_o91 : ((adF q u p v 91, EFs (gS D cy sa sv sz q u p v) h0 91 (SH 91)) : Nat × va_E) ∈ Wc11 (gS D cy sa sv sz q u p v) q u ++ Wc12 (gS D cy sa sv sz q u p v) p v := List.mem_append_left _ (m_11_q27 _ _ _ (m_1_q4 _ _ _))
theorem st_o92 : ((adF q u p v 92, EFs (gS D cy sa sv sz q u p v) h0 92 (SH 92)) : Nat × va_E) ∈ Wc11 (gS D cy sa sv sz q u p v) q u ++ Wc12 (gS D cy sa sv sz q u p v) p v := List.mem_append_left _ (m_11_q30 _ _ _ (m_7_this _ _ _))
theorem st_o93 : ((adF q u p v 93, EFs (gS D cy sa sv sz q u p v) h0 93 (SH 93)) : Nat × va_E) ∈ Wc11 (gS D cy sa sv sz q u p v) q u ++ Wc12 (gS D cy sa sv sz q u p v) p v := List.mem_append_left _ (m_11_q30 _ _ _ (m_7_q1 _ _ _))
theorem st_o94 : ((adF q u p v 94, EFs (gS D cy sa sv sz q u p v) h0 94 (SH 94)) : Nat × va_E) ∈ Wc11 (gS D cy sa sv sz q u p v) q u ++ Wc12 (gS D cy sa sv sz q u p v) p v := List.mem_append_left _ (m_11_q30 _ _ _ (m_7_q2 _ _ _))
theorem st_o95 : ((adF q u p v 95, EFs (gS D cy sa sv sz q u p v) h0 95 (SH 95)) : Nat × va_E) ∈ Wc11 (gS D cy sa sv sz q u p v) q u ++ Wc12 (gS D cy sa sv sz q u p v) p v := List.mem_append_left _ (m_11_q30 _ _ _ (m_7_q3 _ _ _))
theorem st_o96 : ((adF q u p v 96, EFs (gS D cy sa sv sz q u p v) h0 96 (SH 96)) : Nat × va_E) ∈ Wc11 (gS D cy sa sv sz q u p v) q u ++ Wc12 (gS D cy sa sv sz q u p v) p v := List.mem_append_left _ (m_11_q33 _ _ _)
theorem st_o97 : ((adF q u p v 97, EFs (gS D cy sa sv sz q u p v) h0 97 (SH 97)) : Nat × va_E) ∈ Wc11 (gS D cy sa sv sz q u p v) q u ++ Wc12 (gS D cy sa sv sz q u p v) p v := List.mem_append_left _ (m_11_q3 _ _ _ (m_5_q1 _ _ _ (m_9_q1 _ _ _)))
theorem st_o98 : ((adF q u p v 98, EFs (gS D cy sa sv sz q u p v) h0 98 (SH 98)) : Nat × va_E) ∈ Wc11 (gS D cy sa sv sz q u p v) q u ++ Wc12 (gS D cy sa sv sz q u p v) p v := by rw [ef98]; exact List.mem_append_right _ (m_12_this _ _ _)
theorem st_o99 : ((adF q u p v 99, EFs (gS D cy sa sv sz q u p v) h0 99 (SH 99)) : Nat × va_E) ∈ Wc11 (gS D cy sa sv sz q u p v) q u ++ Wc12 (gS D cy sa sv sz q u p v) p v := List.mem_append_right _ (m_12_q1 _ _ _)
theorem st_o100 : ((adF q u p v 100, EFs (gS D cy sa sv sz q u p v) h0 100 (SH 100)) : Nat × va_E) ∈ Wc11 (gS D cy sa sv sz q u p v) q u ++ Wc12 (gS D cy sa sv sz q u p v) p v := List.mem_append_right _ (m_12_q2 _ _ _)
theorem st_o101 : ((adF q u p v 101, EFs (gS D cy sa sv sz q u p v) h0 101 (SH 101)) : Nat × va_E) ∈ Wc11 (gS D cy sa sv sz q u p v) q u ++ Wc12 (gS D cy sa sv sz q u p v) p v := List.mem_append_right _ (m_12_q4 _ _ _)
theorem st_o102 : ((adF q u p v 102, EFs (gS D cy sa sv sz q u p v) h0 102 (SH 102)) : Nat × va_E) ∈ Wc11 (gS D cy sa sv sz q u p v) q u ++ Wc12 (gS D cy sa sv sz q u p v) p v := List.mem_append_right _ (m_12_q6 _ _ _)
theorem st_o103 : ((adF q u p v 103, EFs (gS D cy sa sv sz q u p v) h0 103 (SH 103)) : Nat × va_E) ∈ Wc11 (gS D cy sa sv sz q u p v) q u ++ Wc12 (gS D cy sa sv sz q u p v) p v := List.mem_append_right _ (m_12_q8 _ _ _)
theorem st_o104 : ((adF q u p v 104, EFs (gS D cy sa sv sz q u p v) h0 104 (SH 104)) : Nat × va_E) ∈ Wc11 (gS D cy sa sv sz q u p v) q u ++ Wc12 (gS D cy sa sv sz q u p v) p v := List.mem_append_right _ (m_12_q10 _ _ _)
theorem st_o105 : ((adF q u p v 105, EFs (gS D cy sa sv sz q u p v) h0 105 (SH 105)) : Nat × va_E) ∈ Wc11 (gS D cy sa sv sz q u p v) q u ++ Wc12 (gS D cy sa sv sz q u p v) p v := List.mem_append_right _ (m_12_q12 _ _ _)
theorem st_o106 : ((adF q u p v 106, EFs (gS D cy sa sv sz q u p v) h0 106 (SH 106)) : Nat × va_E) ∈ Wc11 (gS D cy sa sv sz q u p v) q u ++ Wc12 (gS D cy sa sv sz q u p v) p v := List.mem_append_right _ (m_12_q14 _ _ _)
theorem st_o107 : ((adF q u p v 107, EFs (gS D cy sa sv sz q u p v) h0 107 (SH 107)) : Nat × va_E) ∈ Wc11 (gS D cy sa sv sz q u p v) q u ++ Wc12 (gS D cy sa sv sz q u p v) p v := List.mem_append_right _ (m_12_q16 _ _ _)
theorem st_o108 : ((adF q u p v 108, EFs (gS D cy sa sv sz q u p v) h0 108 (SH 108)) : Nat × va_E) ∈ Wc11 (gS D cy sa sv sz q u p v) q u ++ Wc12 (gS D cy sa sv sz q u p v) p v := List.mem_append_right _ (m_12_q18 _ _ _)
theorem st_o109 : ((adF q u p v 109, EFs (gS D cy sa sv sz q u p v) h0 109 (SH 109)) : Nat × va_E) ∈ Wc11 (gS D cy sa sv sz q u p v) q u ++ Wc12 (gS D cy sa sv sz q u p v) p v := List.mem_append_right _ (m_12_q20 _ _ _)
theorem st_o110 : ((adF q u p v 110, EFs (gS D cy sa sv sz q u p v) h0 110 (SH 110)) : Nat × va_E) ∈ Wc11 (gS D cy sa sv sz q u p v) q u ++ Wc12 (gS D cy sa sv sz q u p v) p v := List.mem_append_right _ (m_12_q22 _ _ _)
theorem st_o111 : ((adF q u p v 111, EFs (gS D cy sa sv sz q u p v) h0 111 (SH 111)) : Nat × va_E) ∈ Wc11 (gS D cy sa sv sz q u p v) q u ++ Wc12 (gS D cy sa sv sz q u p v) p v := List.mem_append_right _ (m_12_q24 _ _ _)
theorem st_o112 : ((adF q u p v 112, EFs (gS D cy sa sv sz q u p v) h0 112 (SH 112)) : Nat × va_E) ∈ Wc11 (gS D cy sa sv sz q u p v) q u ++ Wc12 (gS D cy sa sv sz q u p v) p v := List.mem_append_right _ (m_12_q26 _ _ _)
theorem st_o113 : ((adF q u p v 113, EFs (gS D cy sa sv sz q u p v) h0 113 (SH 113)) : Nat × va_E) ∈ Wc11 (gS D cy sa sv sz q u p v) q u ++ Wc12 (gS D cy sa sv sz q u p v) p v := List.mem_append_right _ (m_12_q28 _ _ _)
theorem st_o114 : ((adF q u p v 114, EFs (gS D cy sa sv sz q u p v) h0 114 (SH 114)) : Nat × va_E) ∈ Wc11 (gS D cy sa sv sz q u p v) q u ++ Wc12 (gS D cy sa sv sz q u p v) p v := List.mem_append_right _ (m_12_q30 _ _ _)
theorem st_o115 : ((adF q u p v 115, EFs (gS D cy sa sv sz q u p v) h0 115 (SH 115)) : Nat × va_E) ∈ Wc11 (gS D cy sa sv sz q u p v) q u ++ Wc12 (gS D cy sa sv sz q u p v) p v := List.mem_append_right _ (m_12_q32 _ _ _)
theorem st_o116 : ((adF q u p v 116, EFs (gS D cy sa sv sz q u p v) h0 116 (SH 116)) : Nat × va_E) ∈ Wc11 (gS D cy sa sv sz q u p v) q u ++ Wc12 (gS D cy sa sv sz q u p v) p v := List.mem_append_right _ (m_12_q34 _ _ _)
theorem st_o117 : ((adF q u p v 117, EFs (gS D cy sa sv sz q u p v) h0 117 (SH 117)) : Nat × va_E) ∈ Wc11 (gS D cy sa sv sz q u p v) q u ++ Wc12 (gS D cy sa sv sz q u p v) p v := List.mem_append_right _ (m_12_q36 _ _ _)
theorem st_o118 : ((adF q u p v 118, EFs (gS D cy sa sv sz q u p v) h0 118 (SH 118)) : Nat × va_E) ∈ Wc11 (gS D cy sa sv sz q u p v) q u ++ Wc12 (gS D cy sa sv sz q u p v) p v := List.mem_append_right _ (m_12_q38 _ _ _)
theorem st_o119 : ((adF q u p v 119, EFs (gS D cy sa sv sz q u p v) h0 119 (SH 119)) : Nat × va_E) ∈ Wc11 (gS D cy sa sv sz q u p v) q u ++ Wc12 (gS D cy sa sv sz q u p v) p v := List.mem_append_right _ (m_12_q40 _ _ _)
theorem st_o120 : ((adF q u p v 120, EFs (gS D cy sa sv sz q u p v) h0 120 (SH 120)) : Nat × va_E) ∈ Wc11 (gS D cy sa sv sz q u p v) q u ++ Wc12 (gS D cy sa sv sz q u p v) p v := List.mem_append_right _ (m_12_q42 _ _ _)
theorem st_o121 : ((adF q u p v 121, EFs (gS D cy sa sv sz q u p v) h0 121 (SH 121)) : Nat × va_E) ∈ Wc11 (gS D cy sa sv sz q u p v) q u ++ Wc12 (gS D cy sa sv sz q u p v) p v := List.mem_append_right _ (m_12_q44 _ _ _)
theorem st_o122 : ((adF q u p v 122, EFs (gS D cy sa sv sz q u p v) h0 122 (SH 122)) : Nat × va_E) ∈ Wc11 (gS D cy sa sv sz q u p v) q u ++ Wc12 (gS D cy sa sv sz q u p v) p v := List.mem_append_right _ (m_12_q46 _ _ _)
theorem st_o123 : ((adF q u p v 123, EFs (gS D cy sa sv sz q u p v) h0 123 (SH 123)) : Nat × va_E) ∈ Wc11 (gS D cy sa sv sz q u p v) q u ++ Wc12 (gS D cy sa sv sz q u p v) p v := List.mem_append_right _ (m_12_q48 _ _ _)
theorem st_o124 : ((adF q u p v 124, EFs (gS D cy sa sv sz q u p v) h0 124 (SH 124)) : Nat × va_E) ∈ Wc11 (gS D cy sa sv sz q u p v) q u ++ Wc12 (gS D cy sa sv sz q u p v) p v := List.mem_append_right _ (m_12_q50 _ _ _)
theorem st_o125 : ((adF q u p v 125, EFs (gS D cy sa sv sz q u p v) h0 125 (SH 125)) : Nat × va_E) ∈ Wc11 (gS D cy sa sv sz q u p v) q u ++ Wc12 (gS D cy sa sv sz q u p v) p v := List.mem_append_right _ (m_12_q51 _ _ _)
theorem st_o126 : ((adF q u p v 126, EFs (gS D cy sa sv sz q u p v) h0 126 (SH 126)) : Nat × va_E) ∈ Wc11 (gS D cy sa sv sz q u p v) q u ++ Wc12 (gS D cy sa sv sz q u p v) p v := List.mem_append_right _ (m_12_q53 _ _ _)
end STW
theorem st_cgr {D : va_G} {cl : List vw_C} {a N : Nat} {cA : ClassId} {f g : Nat → Option Nat} {H : Heap} (h : ∀ j, j < N → f j = g j) (hP : va_at D cl (a, .inl (cA, N, .inr (.inr (.inr (.inr f))))) H) : va_at D cl (a, .inl (cA, N, .inr (.inr (.inr (.inr g))))) H := by
  have e : vp_cell cA (N, .inr (.inr (.inr (.inr f)))) = vp_cell cA (N, .inr (.inr (.inr (.inr g)))) := by
    rw [vp_cell_q, vp_cell_q]
    unfold arrV
    congr 2
    funext j
    show va_rf (f j.val) = va_rf (g j.val)
    rw [h j.val j.isLt]
  show H[a]? = some _
  rw [← e]
  exact hP
theorem st_W {D : va_G} {cy : Nat → ClassId} {sa sv : Nat → Nat} {sz q : Nat} {u : S11} {p : Nat} {v : S12} {H : Heap} (hP : va_P D vwCl (Wc11 (gS D cy sa sv sz q u p v) q u ++ Wc12 (gS D cy sa sv sz q u p v) p v) H) : va_P D vwCl (wl (gS D cy sa sv sz q u p v) h0) H := by
  intro k x hx
  have hk : k < 127 := by
    have := (List.getElem?_eq_some_iff.mp hx).1
    simpa [wl] using this
  rw [wl_get hk] at hx
  cases hx
  match k, hk with
  | 0, _ => exact vp_mem.mp hP _ (st_o0 D cy sa sv sz q u p v)
  | 1, _ => exact vp_mem.mp hP _ (st_o1 D cy sa sv sz q u p v)
  | 2, _ => exact vp_mem.mp hP _ (st_o2 D cy sa sv sz q u p v)
  | 3, _ => exact vp_mem.mp hP _ (st_o3 D cy sa sv sz q u p v)
  | 4, _ => exact vp_mem.mp hP _ (st_o4 D cy sa sv sz q u p v)
  | 5, _ => exact vp_mem.mp hP _ (st_o5 D cy sa sv sz q u p v)
  | 6, _ => exact vp_mem.mp hP _ (st_o6 D cy sa sv sz q u p v)
  | 7, _ => exact vp_mem.mp hP _ (st_o7 D cy sa sv sz q u p v)
  | 8, _ => exact vp_mem.mp hP _ (st_o8 D cy sa sv sz q u p v)
  | 9, _ => exact vp_mem.mp hP _ (st_o9 D cy sa sv sz q u p v)
  | 10, _ => exact vp_mem.mp hP _ (st_o10 D cy sa sv sz q u p v)
  | 11, _ => exact vp_mem.mp hP _ (st_o11 D cy sa sv sz q u p v)
  | 12, _ => exact vp_mem.mp hP _ (st_o12 D cy sa sv sz q u p v)
  | 13, _ => exact vp_mem.mp hP _ (st_o13 D cy sa sv sz q u p v)
  | 14, _ => exact vp_mem.mp hP _ (st_o14 D cy sa sv sz q u p v)
  | 15, _ => exact vp_mem.mp hP _ (st_o15 D cy sa sv sz q u p v)
  | 16, _ => exact vp_mem.mp hP _ (st_o16 D cy sa sv sz q u p v)
  | 17, _ => exact vp_mem.mp hP _ (st_o17 D cy sa sv sz q u p v)
  | 18, _ => exact vp_mem.mp hP _ (st_o18 D cy sa sv sz q u p v)
  | 19, _ => exact vp_mem.mp hP _ (st_o19 D cy sa sv sz q u p v)
  | 20, _ => exact vp_mem.mp hP _ (st_o20 D cy sa sv sz q u p v)
  | 21, _ => exact vp_mem.mp hP _ (st_o21 D cy sa sv sz q u p v)
  | 22, _ => exact vp_mem.mp hP _ (st_o22 D cy sa sv sz q u p v)
  | 23, _ => exact vp_mem.mp hP _ (st_o23 D cy sa sv sz q u p v)
  | 24, _ => exact vp_mem.mp hP _ (st_o24 D cy sa sv sz q u p v)
  | 25, _ => exact st_cgr (fun j hj => match j, hj with | 0, _ => rfl | 1, _ => rfl | 2, _ => rfl | 3, _ => rfl | 4, _ => rfl | 5, _ => rfl | 6, _ => rfl | 7, _ => rfl | 8, _ => rfl | 9, _ => rfl | j + 10, hj => absurd hj (by omega)) (vp_mem.mp hP _ (st_o25 D cy sa sv sz q u p v))
  | 26, _ => exact vp_mem.mp hP _ (st_o26 D cy sa sv sz q u p v)
  | 27, _ => exact vp_mem.mp hP _ (st_o27 D cy sa sv sz q u p v)
  | 28, _ => exact vp_mem.mp hP _ (st_o28 D cy sa sv sz q u p v)
  | 29, _ => exact vp_mem.mp hP _ (st_o29 D cy sa sv sz q u p v)
  | 30, _ => exact vp_mem.mp hP _ (st_o30 D cy sa sv sz q u p v)
  | 31, _ => exact vp_mem.mp hP _ (st_o31 D cy sa sv sz q u p v)
  | 32, _ => exact vp_mem.mp hP _ (st_o32 D cy sa sv sz q u p v)
  | 33, _ => exact vp_mem.mp hP _ (st_o33 D cy sa sv sz q u p v)
  | 34, _ => exact vp_mem.mp hP _ (st_o34 D cy sa sv sz q u p v)
  | 35, _ => exact vp_mem.mp hP _ (st_o35 D cy sa sv sz q u p v)
  | 36, _ => exact vp_mem.mp hP _ (st_o36 D cy sa sv sz q u p v)
  | 37, _ => exact vp_mem.mp hP _ (st_o37 D cy sa sv sz q u p v)
  | 38, _ => exact vp_mem.mp hP _ (st_o38 D cy sa sv sz q u p v)
  | 39, _ => exact vp_mem.mp hP _ (st_o39 D cy sa sv sz q u p v)
  | 40, _ => exact vp_mem.mp hP _ (st_o40 D cy sa sv sz q u p v)
  | 41, _ => exact vp_mem.mp hP _ (st_o41 D cy sa sv sz q u p v)
  | 42, _ => exact vp_mem.mp hP _ (st_o42 D cy sa sv sz q u p v)
  | 43, _ => exact vp_mem.mp hP _ (st_o43 D cy sa sv sz q u p v)
  | 44, _ => exact vp_mem.mp hP _ (st_o44 D cy sa sv sz q u p v)
  | 45, _ => exact vp_mem.mp hP _ (st_o45 D cy sa sv sz q u p v)
  | 46, _ => exact st_cgr (fun j hj => match j, hj with | 0, _ => rfl | 1, _ => rfl | 2, _ => rfl | 3, _ => rfl | j + 4, hj => absurd hj (by omega)) (vp_mem.mp hP _ (st_o46 D cy sa sv sz q u p v))
  | 47, _ => exact vp_mem.mp hP _ (st_o47 D cy sa sv sz q u p v)
  | 48, _ => exact vp_mem.mp hP _ (st_o48 D cy sa sv sz q u p v)
  | 49, _ => exact vp_mem.mp hP _ (st_o49 D cy sa sv sz q u p v)
  | 50, _ => exact vp_mem.mp hP _ (st_o50 D cy sa sv sz q u p v)
  | 51, _ => exact vp_mem.mp hP _ (st_o51 D cy sa sv sz q u p v)
  | 52, _ => exact vp_mem.mp hP _ (st_o52 D cy sa sv sz q u p v)
  | 53, _ => exact vp_mem.mp hP _ (st_o53 D cy sa sv sz q u p v)
  | 54, _ => exact vp_mem.mp hP _ (st_o54 D cy sa sv sz q u p v)
  | 55, _ => exact st_cgr (fun j hj => match j, hj with | 0, _ => rfl | 1, _ => rfl | j + 2, hj => absurd hj (by omega)) (vp_mem.mp hP _ (st_o55 D cy sa sv sz q u p v))
  | 56, _ => exact vp_mem.mp hP _ (st_o56 D cy sa sv sz q u p v)
  | 57, _ => exact vp_mem.mp hP _ (st_o57 D cy sa sv sz q u p v)
  | 58, _ => exact vp_mem.mp hP _ (st_o58 D cy sa sv sz q u p v)
  | 59, _ => exact vp_mem.mp hP _ (st_o59 D cy sa sv sz q u p v)
  | 60, _ => exact vp_mem.mp hP _ (st_o60 D cy sa sv sz q u p v)
  | 61, _ => exact vp_mem.mp hP _ (st_o61 D cy sa sv sz q u p v)
  | 62, _ => exact vp_mem.mp hP _ (st_o62 D cy sa sv sz q u p v)
  | 63, _ => exact vp_mem.mp hP _ (st_o63 D cy sa sv sz q u p v)
  | 64, _ => exact vp_mem.mp hP _ (st_o64 D cy sa sv sz q u p v)
  | 65, _ => exact vp_mem.mp hP _ (st_o65 D cy sa sv sz q u p v)
  | 66, _ => exact vp_mem.mp hP _ (st_o66 D cy sa sv sz q u p v)
  | 67, _ => exact vp_mem.mp hP _ (st_o67 D cy sa sv sz q u p v)
  | 68, _ => exact st_cgr (fun j hj => match j, hj with | 0, _ => rfl | 1, _ => rfl | j + 2, hj => absurd hj (by omega)) (vp_mem.mp hP _ (st_o68 D cy sa sv sz q u p v))
  | 69, _ => exact vp_mem.mp hP _ (st_o69 D cy sa sv sz q u p v)
  | 70, _ => exact vp_mem.mp hP _ (st_o70 D cy sa sv sz q u p v)
  | 71, _ => exact vp_mem.mp hP _ (st_o71 D cy sa sv sz q u p v)
  | 72, _ => exact vp_mem.mp hP _ (st_o72 D cy sa sv sz q u p v)
  | 73, _ => exact vp_mem.mp hP _ (st_o73 D cy sa sv sz q u p v)
  | 74, _ => exact vp_mem.mp hP _ (st_o74 D cy sa sv sz q u p v)
  | 75, _ => exact vp_mem.mp hP _ (st_o75 D cy sa sv sz q u p v)
  | 76, _ => exact vp_mem.mp hP _ (st_o76 D cy sa sv sz q u p v)
  | 77, _ => exact vp_mem.mp hP _ (st_o77 D cy sa sv sz q u p v)
  | 78, _ => exact vp_mem.mp hP _ (st_o78 D cy sa sv sz q u p v)
  | 79, _ => exact vp_mem.mp hP _ (st_o79 D cy sa sv sz q u p v)
  | 80, _ => exact vp_mem.mp hP _ (st_o80 D cy sa sv sz q u p v)
  | 81, _ => exact vp_mem.mp hP _ (st_o81 D cy sa sv sz q u p v)
  | 82, _ => exact vp_mem.mp hP _ (st_o82 D cy sa sv sz q u p v)
  | 83, _ => exact vp_mem.mp hP _ (st_o83 D cy sa sv sz q u p v)
  | 84, _ => exact vp_mem.mp hP _ (st_o84 D cy sa sv sz q u p v)
  | 85, _ => exact vp_mem.mp hP _ (st_o85 D cy sa sv sz q u p v)
  | 86, _ => exact vp_mem.mp hP _ (st_o86 D cy sa sv sz q u p v)
  | 87, _ => exact vp_mem.mp hP _ (st_o87 D cy sa sv sz q u p v)
  | 88, _ => exact vp_mem.mp hP _ (st_o88 D cy sa sv sz q u p v)
  | 89, _ => exact vp_mem.mp hP _ (st_o89 D cy sa sv sz q u p v)
  | 90, _ => exact vp_mem.mp hP _ (st_o90 D cy sa sv sz q u p v)
  | 91, _ => exact vp_mem.mp hP _ (st_o91 D cy sa sv sz q u p v)
  | 92, _ => exact vp_mem.mp hP _ (st_o92 D cy sa sv sz q u p v)
  | 93, _ => exact vp_mem.mp hP _ (st_o93 D cy sa sv sz q u p v)
  | 94, _ => exact vp_mem.mp hP _ (st_o94 D cy sa sv sz q u p v)
  | 95, _ => exact vp_mem.mp hP _ (st_o95 D cy sa sv sz q u p v)
  | 96, _ => exact vp_mem.mp hP _ (st_o96 D cy sa sv sz q u p v)
  | 97, _ => exact vp_mem.mp hP _ (st_o97 D cy sa sv sz q u p v)
  | 98, _ => exact vp_mem.mp hP _ (st_o98 D cy sa sv sz q u p v)
  | 99, _ => exact vp_mem.mp hP _ (st_o99 D cy sa sv sz q u p v)
  | 100, _ => exact vp_mem.mp hP _ (st_o100 D cy sa sv sz q u p v)
  | 101, _ => exact vp_mem.mp hP _ (st_o101 D cy sa sv sz q u p v)
  | 102, _ => exact vp_mem.mp hP _ (st_o102 D cy sa sv sz q u p v)
  | 103, _ => exact vp_mem.mp hP _ (st_o103 D cy sa sv sz q u p v)
  | 104, _ => exact vp_mem.mp hP _ (st_o104 D cy sa sv sz q u p v)
  | 105, _ => exact vp_mem.mp hP _ (st_o105 D cy sa sv sz q u p v)
  | 106, _ => exact vp_mem.mp hP _ (st_o106 D cy sa sv sz q u p v)
  | 107, _ => exact vp_mem.mp hP _ (st_o107 D cy sa sv sz q u p v)
  | 108, _ => exact vp_mem.mp hP _ (st_o108 D cy sa sv sz q u p v)
  | 109, _ => exact vp_mem.mp hP _ (st_o109 D cy sa sv sz q u p v)
  | 110, _ => exact vp_mem.mp hP _ (st_o110 D cy sa sv sz q u p v)
  | 111, _ => exact vp_mem.mp hP _ (st_o111 D cy sa sv sz q u p v)
  | 112, _ => exact vp_mem.mp hP _ (st_o112 D cy sa sv sz q u p v)
  | 113, _ => exact vp_mem.mp hP _ (st_o113 D cy sa sv sz q u p v)
  | 114, _ => exact vp_mem.mp hP _ (st_o114 D cy sa sv sz q u p v)
  | 115, _ => exact vp_mem.mp hP _ (st_o115 D cy sa sv sz q u p v)
  | 116, _ => exact vp_mem.mp hP _ (st_o116 D cy sa sv sz q u p v)
  | 117, _ => exact vp_mem.mp hP _ (st_o117 D cy sa sv sz q u p v)
  | 118, _ => exact vp_mem.mp hP _ (st_o118 D cy sa sv sz q u p v)
  | 119, _ => exact vp_mem.mp hP _ (st_o119 D cy sa sv sz q u p v)
  | 120, _ => exact vp_mem.mp hP _ (st_o120 D cy sa sv sz q u p v)
  | 121, _ => exact vp_mem.mp hP _ (st_o121 D cy sa sv sz q u p v)
  | 122, _ => exact vp_mem.mp hP _ (st_o122 D cy sa sv sz q u p v)
  | 123, _ => exact vp_mem.mp hP _ (st_o123 D cy sa sv sz q u p v)
  | 124, _ => exact vp_mem.mp hP _ (st_o124 D cy sa sv sz q u p v)
  | 125, _ => exact vp_mem.mp hP _ (st_o125 D cy sa sv sz q u p v)
  | 126, _ => exact vp_mem.mp hP _ (st_o126 D cy sa sv sz q u p v)
  | n + 127, hk => exact absurd hk (by show ¬ n + 127 < 127; omega)
def flT : List Nat := [0, 46, 55, 68, 1, 2, 3, 97, 4, 5, 6, 7, 8, 9, 10, 11, 12, 13, 14, 15, 16, 17, 18, 19, 20, 21, 22, 23, 24, 25, 26, 27, 28, 29, 30, 31, 32, 33, 34, 35, 36, 37, 38, 39, 40, 41, 42, 43, 44, 45, 73, 74, 75, 76, 77, 78, 79, 80, 81, 82, 83, 84, 85, 86, 87, 88, 89, 90, 91, 92, 93, 94, 95, 96, 47, 48, 49, 50, 51, 52, 53, 54, 56, 57, 58, 59, 60, 61, 69, 70, 62, 63, 64, 65, 66, 67, 71, 72, 98, 99, 124, 100, 101, 102, 103, 104, 105, 106, 107, 108, 109, 110, 111, 112, 113, 114, 115, 116, 117, 118, 119, 120, 121, 122, 123, 125, 126]
theorem st_fl (q : Nat) (u : S11) (p : Nat) (v : S12) : Fc11 q u ++ Fc12 p v = flT.map (adF q u p v) := by
  simp only [Fc6, Fc3, Fc9, Fc2, Fc10, Fc8, Fc0, Fc1, Fc7, Fc4, Fc5, Fc11, Fc12, List.append_assoc, List.cons_append, List.nil_append]
  rfl
theorem st_inj {α : Type} {f : Nat → α} : ∀ {l : List Nat}, (l.map f).Nodup → ∀ i ∈ l, ∀ j ∈ l, f i = f j → i = j
  | [], _, i, hi, _, _, _ => absurd hi List.not_mem_nil
  | x :: l, h, i, hi, j, hj, e => by
    rw [List.map_cons, List.nodup_cons] at h
    rcases List.mem_cons.mp hi with h1 | h1 <;> rcases List.mem_cons.mp hj with h2 | h2
    · rw [h1, h2]
    · exact absurd (by rw [← h1, e]; exact List.mem_map_of_mem h2) h.1
    · exact absurd (by rw [← h2, ← e]; exact List.mem_map_of_mem h1) h.1
    · exact st_inj h.2 i h1 j h2 e
theorem flT_all : ((List.range 127).all fun i => flT.contains i) = true := by decide +kernel
theorem st_G {D : va_G} {cy : Nat → ClassId} {sa sv : Nat → Nat} {sz q : Nat} {u : S11} {p : Nat} {v : S12} (hD : va_D (fun a => sz ≤ a) (Wc11 (gS D cy sa sv sz q u p v) q u ++ Wc12 (gS D cy sa sv sz q u p v) p v)) : GOK (gS D cy sa sv sz q u p v) := by
  have hv := vd_iff.mp hD
  have e1 : (Wc11 (gS D cy sa sv sz q u p v) q u ++ Wc12 (gS D cy sa sv sz q u p v) p v).map Prod.fst = flT.map (adF q u p v) := by rw [List.map_append, fst_11, fst_12, st_fl]
  have hmem : ∀ i, i < NN → i ∈ flT := fun i hi => by simpa using List.all_eq_true.mp flT_all i (List.mem_range.mpr hi)
  refine ⟨fun i j hi hj e => ?_, fun i hi => ?_⟩
  · refine st_inj (f := adF q u p v) (l := flT) ?_ i (hmem i hi) j (hmem j hj) e
    rw [← e1]
    exact List.pairwise_map.mpr hv.1
  · have h1 : adF q u p v i ∈ (Wc11 (gS D cy sa sv sz q u p v) q u ++ Wc12 (gS D cy sa sv sz q u p v) p v).map Prod.fst := by rw [e1]; exact List.mem_map_of_mem (hmem i hi)
    obtain ⟨x, hx, hx1⟩ := List.mem_map.mp h1
    have := hv.2 x hx
    rw [hx1] at this
    exact this
