/-! THE WORLD: the cells of the class and of the law, by numbers; what changes is a state of two stores (the third is idle) -/
abbrev CS : Type := (Nat → Nat → Int32) × (Nat → Nat → Nat)
/-- the law's heap: kinds, ints, references (0: null), lengths; the next number; slots made; the numbers made -/
abbrev MS : Type := (Nat → Nat) × (Nat → Nat → Int32) × (Nat → Nat → Nat) × (Nat → Nat) × Nat × Nat × List Nat
abbrev SS : Type := CS × MS × (Nat → Int32)
def h_K (y : MS) : Nat → Nat := y.1
def h_I (y : MS) : Nat → Nat → Int32 := y.2.1
def h_R (y : MS) : Nat → Nat → Nat := y.2.2.1
def h_N (y : MS) : Nat → Nat := y.2.2.2.1
def h_nx (y : MS) : Nat := y.2.2.2.2.1
def h_sl (y : MS) : Nat := y.2.2.2.2.2.1
def h_ids (y : MS) : List Nat := y.2.2.2.2.2.2
def h_wi (y : MS) (i k : Nat) (v : Int32) : MS := (y.1, fun j => if j = i then upd (y.2.1 i) k v else y.2.1 j, y.2.2)
def h_wr (y : MS) (i k : Nat) (v : Nat) : MS := (y.1, y.2.1, fun j => if j = i then va_up (y.2.2.1 i) k v else y.2.2.1 j, y.2.2.2)
def h_wa (y : MS) (i : Nat) (f : Nat → Int32) : MS := (y.1, fun j => if j = i then f else y.2.1 j, y.2.2)
/-- a new cell: kind, ints, references, length, slots -/
def h_new (y : MS) (k : Nat) (f : Nat → Int32) (r : Nat → Nat) (n sl : Nat) : MS :=
  (fun j => if j = h_nx y then k else y.1 j, fun j => if j = h_nx y then f else y.2.1 j, fun j => if j = h_nx y then r else y.2.2.1 j, fun j => if j = h_nx y then n else y.2.2.2.1 j, h_nx y + 1, h_sl y + sl, h_ids y ++ [h_nx y])
/-- a cell that nobody keeps -/
def h_ex (y : MS) (n sl : Nat) : MS := (y.1, y.2.1, y.2.2.1, y.2.2.2.1, h_nx y + n, h_sl y + sl, h_ids y)
def g_wi (x : CS) (i k : Nat) (v : Int32) : CS := (fun j => if j = i then upd (x.1 i) k v else x.1 j, x.2)
def g_wr (x : CS) (i k : Nat) (v : Nat) : CS := (x.1, fun j => if j = i then va_up (x.2 i) k v else x.2 j)
def g_wa (x : CS) (i : Nat) (f : Nat → Int32) : CS := (fun j => if j = i then f else x.1 j, x.2)
/-- where things lie: classes, array classes, cells, constants, the first new cell, arrays of the class files, texts and their bytes, the script -/
abbrev GL : Type := va_G × (Nat → ClassId) × (Nat → Nat) × (Nat → Nat) × Nat × (Nat → Nat) × (Nat → Nat) × (Nat → Nat) × (Nat × (Nat → Int32))
def g_D (G : GL) : va_G := G.1
def g_cA (G : GL) : Nat → ClassId := G.2.1
def g_b (G : GL) : Nat := G.2.2.2.2.1
/-- the law's cell i lies i - 200 behind the first new cell -/
def g_ad (G : GL) : Nat → Nat := fun i => if i < 200 then G.2.2.1 i else g_b G + (i - 200)
def g_sg (G : GL) : Nat → Nat := G.2.2.2.1
def g_st (G : GL) : Nat → Nat := G.2.2.2.2.2.1
def g_sK (G : GL) : Nat → Nat := G.2.2.2.2.2.2.1
def g_sV (G : GL) : Nat → Nat := G.2.2.2.2.2.2.2.1
def g_L (G : GL) : Nat := G.2.2.2.2.2.2.2.2.1
def g_xs (G : GL) : Nat → Int32 := G.2.2.2.2.2.2.2.2.2
def g_A (G : GL) : Nat → Prop := fun q => g_b G ≤ q
/-- a reference of the law's heap: below 200 it is null -/
def g_ro (G : GL) (r : Nat) : Option Nat := if r < 200 then none else some (g_ad G r)
def g_rf (G : GL) (r : Nat) : Value := va_rf (g_ro G r)
theorem g_rf0 {G : GL} : g_rf G 0 = .null := rfl
theorem g_rfp {G : GL} {r : Nat} (h : 200 ≤ r) : g_rf G r = .ref (g_ad G r) := by unfold g_rf g_ro; rw [if_neg (by omega)]; rfl
theorem g_rfl {G : GL} {r : Nat} (h : r < 200) : g_rf G r = .null := by unfold g_rf g_ro; rw [if_pos h]; rfl
def g_tys (G : GL) : List (ClassId × FieldType) := [(g_cA G 0, .int), (g_cA G 1, .char), (g_cA G 0, .int), (g_cA G 3, .object RX6), (g_cA G 4, .object RX11), (g_cA G 5, .object RX4), (g_cA G 6, .byte), (g_cA G 7, .boolean), (g_cA G 8, .array .int), (g_cA G 9, .object RX15)]
def g_kl : List Nat := [1, 2, 20, 3, 21, 22, 22, 22, 4, 23, 5, 24, 5, 24, 5, 24, 5, 24, 6, 25, 7, 26, 8, 27, 25, 8, 8, 8, 8, 8, 8, 8, 8, 8, 8, 8, 8, 8, 8, 8, 8, 9, 28, 10, 5, 24, 10, 5, 24, 10, 5, 24, 10, 5, 24, 10, 5, 24, 10, 5, 24, 10, 5, 24, 10, 5, 24, 10, 5, 24, 7, 26, 8, 27, 25, 8, 8, 8, 8, 8, 8, 8, 8, 8, 8, 8, 8, 8, 8, 8, 8, 9, 28, 10, 5, 24, 10, 5, 24, 10, 5, 24, 10, 5, 24, 10, 5, 24, 10, 5, 24, 10, 5, 24, 10, 5, 24, 10, 5, 24, 0, 0, 0, 0, 0, 0, 0, 0, 0, 0, 0, 0, 0, 0, 0, 0, 0, 0, 0, 0, 0, 0, 0, 0, 0, 0, 0, 0, 0, 0, 0, 0, 0, 0, 0, 0, 0, 0, 0, 0, 0, 0, 11, 29, 0, 0, 0, 0]
def kd (i : Nat) : Nat := g_kl.getD i 0
/-- a cell of the law by its number -/
def h_c (G : GL) (y : MS) (i : Nat) : va_E := match h_K y i with
  | 50 => .inr (13, [.int (h_I y i 0)])
  | 51 => .inr (14, [.int (h_I y i 0), .int (h_I y i 1), g_rf G (h_R y i 2), g_rf G (h_R y i 3)])
  | 52 => .inr (15, [.int (h_I y i 0), .int (h_I y i 1), g_rf G (h_R y i 2), g_rf G (h_R y i 3)])
  | 53 => .inr (16, [.int (h_I y i 0), .int (h_I y i 1), g_rf G (h_R y i 2), g_rf G (h_R y i 3), g_rf G (h_R y i 4), .int (h_I y i 5), .int (h_I y i 6), g_rf G (h_R y i 7), g_rf G (h_R y i 8), g_rf G (h_R y i 9)])
  | 54 => .inr (1, [g_rf G (h_R y i 0), .int (h_I y i 1), .int (h_I y i 2), .int (h_I y i 3)])
  | 55 => .inr (0, [g_rf G (h_R y i 0), .int (h_I y i 1), .int (h_I y i 2), .int (h_I y i 3)])
  | 60 => .inl (g_cA G 0, h_N y i, .inl (h_I y i))
  | 61 => .inl (g_cA G 6, h_N y i, .inl (h_I y i))
  | 62 => .inl (g_cA G 7, h_N y i, .inl (h_I y i))
  | 63 => .inl (g_cA G 8, h_N y i, .inr (.inr (.inr (.inr (fun k => g_ro G (h_R y i k))))))
  | 64 => .inl (g_cA G 9, h_N y i, .inr (.inr (.inr (.inr (fun k => g_ro G (h_R y i k))))))
  | _ => .inr (99, [])
/-- a cell by its number -/
def g_c (G : GL) (S : SS) (i : Nat) : va_E := match kd i with
  | 1 => .inr (12, [.ref (g_ad G 1), .ref (g_ad G 3), .ref (g_ad G 8), .ref (g_ad G 14), .ref (g_ad G 16), .ref (g_ad G 18), .ref (g_ad G (S.1.2 i 6)), .ref (g_ad G (S.1.2 i 7)), .ref (g_ad G (S.1.2 i 8)), .ref (g_ad G (S.1.2 i 9)), .int (S.1.1 i 10)])
  | 2 => .inr (7, [.ref (g_ad G 2), .int (S.1.1 i 1)])
  | 3 => .inr (8, [.ref (g_ad G 1), .ref (g_ad G 4), .ref (g_ad G 5), .ref (g_ad G 6), .ref (g_ad G 7), .int (S.1.1 i 5)])
  | 4 => .inr (10, [.ref (g_ad G 9), .ref (g_ad G 10), .ref (g_ad G 12)])
  | 5 => .inr (4, [.ref (g_ad G (i + 1)), .int (S.1.1 i 1)])
  | 6 => .inr (2, [.ref (g_ad G 14), .ref (g_ad G 8), .ref (g_ad G 19), .int (S.1.1 i 3)])
  | 7 => .inr (6, [.ref (g_ad G (i + 1)), .ref (g_ad G (i + 2)), .ref (g_ad G (i + 3)), .ref (g_ad G (i + 4)), .int (S.1.1 i 4), .int (S.1.1 i 5), .int (S.1.1 i 6), .int (S.1.1 i 7)])
  | 8 => .inr (5, [.ref (g_sg G (S.1.2 i 0)), .int (S.1.1 i 1), .int (S.1.1 i 2), .int (S.1.1 i 3), .int (S.1.1 i 4)])
  | 9 => .inr (9, [.ref (g_ad G (i + 1)), .ref (g_ad G (i + 2)), .int (S.1.1 i 2), .int (S.1.1 i 3), .int (S.1.1 i 4)])
  | 10 => .inr (11, [.ref (g_ad G (i + 1)), .int (S.1.1 i 1), .int (S.1.1 i 2)])
  | 11 => .inr (3, [.ref (g_ad G 3), .ref (g_ad G (S.1.2 i 1)), .ref (g_ad G (S.1.2 i 2)), .ref (g_ad G 163), .int (S.1.1 i 4), .ref (g_sg G (S.1.2 i 5)), .int (S.1.1 i 6), .int (S.1.1 i 7), .int (S.1.1 i 8), .int (S.1.1 i 9)])
  | 20 => .inl (g_cA G 1, 2000, .inl (S.1.1 i))
  | 21 => .inl (g_cA G 3, 401, .inr (.inr (.inr (.inr (fun k => some (g_sg G (S.1.2 i k)))))))
  | 22 => .inl (g_cA G 0, 401, .inl (S.1.1 i))
  | 23 => .inl (g_cA G 0, 25, .inl (S.1.1 i))
  | 24 => .inl (g_cA G 0, 24, .inl (S.1.1 i))
  | 25 => .inl (g_cA G 0, 400, .inl (S.1.1 i))
  | 26 => .inl (g_cA G 5, 16, .inr (.inr (.inr (.inr (fun k => some (g_ad G (i + 4 + 1 * k)))))))
  | 27 => .inl (g_cA G 3, 400, .inr (.inr (.inr (.inr (fun k => some (g_sg G (S.1.2 i k)))))))
  | 28 => .inl (g_cA G 4, 8, .inr (.inr (.inr (.inr (fun k => some (g_ad G (i + 4 + 3 * k)))))))
  | 29 => .inl (g_cA G 0, 8, .inl (S.1.1 i))
  | _ => h_c G S.2.1 i
theorem g_c1 {G : GL} {S : SS} {i : Nat} (h : kd i = 1) : g_c G S i = .inr (12, [.ref (g_ad G 1), .ref (g_ad G 3), .ref (g_ad G 8), .ref (g_ad G 14), .ref (g_ad G 16), .ref (g_ad G 18), .ref (g_ad G (S.1.2 i 6)), .ref (g_ad G (S.1.2 i 7)), .ref (g_ad G (S.1.2 i 8)), .ref (g_ad G (S.1.2 i 9)), .int (S.1.1 i 10)]) := by unfold g_c; rw [h]; rfl
theorem g_c2 {G : GL} {S : SS} {i : Nat} (h : kd i = 2) : g_c G S i = .inr (7, [.ref (g_ad G 2), .int (S.1.1 i 1)]) := by unfold g_c; rw [h]; rfl
theorem g_c3 {G : GL} {S : SS} {i : Nat} (h : kd i = 3) : g_c G S i = .inr (8, [.ref (g_ad G 1), .ref (g_ad G 4), .ref (g_ad G 5), .ref (g_ad G 6), .ref (g_ad G 7), .int (S.1.1 i 5)]) := by unfold g_c; rw [h]; rfl
theorem g_c4 {G : GL} {S : SS} {i : Nat} (h : kd i = 4) : g_c G S i = .inr (10, [.ref (g_ad G 9), .ref (g_ad G 10), .ref (g_ad G 12)]) := by unfold g_c; rw [h]; rfl
theorem g_c5 {G : GL} {S : SS} {i : Nat} (h : kd i = 5) : g_c G S i = .inr (4, [.ref (g_ad G (i + 1)), .int (S.1.1 i 1)]) := by unfold g_c; rw [h]; rfl
theorem g_c6 {G : GL} {S : SS} {i : Nat} (h : kd i = 6) : g_c G S i = .inr (2, [.ref (g_ad G 14), .ref (g_ad G 8), .ref (g_ad G 19), .int (S.1.1 i 3)]) := by unfold g_c; rw [h]; rfl
theorem g_c7 {G : GL} {S : SS} {i : Nat} (h : kd i = 7) : g_c G S i = .inr (6, [.ref (g_ad G (i + 1)), .ref (g_ad G (i + 2)), .ref (g_ad G (i + 3)), .ref (g_ad G (i + 4)), .int (S.1.1 i 4), .int (S.1.1 i 5), .int (S.1.1 i 6), .int (S.1.1 i 7)]) := by unfold g_c; rw [h]; rfl
theorem g_c8 {G : GL} {S : SS} {i : Nat} (h : kd i = 8) : g_c G S i = .inr (5, [.ref (g_sg G (S.1.2 i 0)), .int (S.1.1 i 1), .int (S.1.1 i 2), .int (S.1.1 i 3), .int (S.1.1 i 4)]) := by unfold g_c; rw [h]; rfl
theorem g_c9 {G : GL} {S : SS} {i : Nat} (h : kd i = 9) : g_c G S i = .inr (9, [.ref (g_ad G (i + 1)), .ref (g_ad G (i + 2)), .int (S.1.1 i 2), .int (S.1.1 i 3), .int (S.1.1 i 4)]) := by unfold g_c; rw [h]; rfl
theorem g_c10 {G : GL} {S : SS} {i : Nat} (h : kd i = 10) : g_c G S i = .inr (11, [.ref (g_ad G (i + 1)), .int (S.1.1 i 1), .int (S.1.1 i 2)]) := by unfold g_c; rw [h]; rfl
theorem g_c11 {G : GL} {S : SS} {i : Nat} (h : kd i = 11) : g_c G S i = .inr (3, [.ref (g_ad G 3), .ref (g_ad G (S.1.2 i 1)), .ref (g_ad G (S.1.2 i 2)), .ref (g_ad G 163), .int (S.1.1 i 4), .ref (g_sg G (S.1.2 i 5)), .int (S.1.1 i 6), .int (S.1.1 i 7), .int (S.1.1 i 8), .int (S.1.1 i 9)]) := by unfold g_c; rw [h]; rfl
theorem g_c20 {G : GL} {S : SS} {i : Nat} (h : kd i = 20) : g_c G S i = .inl (g_cA G 1, 2000, .inl (S.1.1 i)) := by unfold g_c; rw [h]; rfl
theorem g_c21 {G : GL} {S : SS} {i : Nat} (h : kd i = 21) : g_c G S i = .inl (g_cA G 3, 401, .inr (.inr (.inr (.inr (fun k => some (g_sg G (S.1.2 i k))))))) := by unfold g_c; rw [h]; rfl
theorem g_c22 {G : GL} {S : SS} {i : Nat} (h : kd i = 22) : g_c G S i = .inl (g_cA G 0, 401, .inl (S.1.1 i)) := by unfold g_c; rw [h]; rfl
theorem g_c23 {G : GL} {S : SS} {i : Nat} (h : kd i = 23) : g_c G S i = .inl (g_cA G 0, 25, .inl (S.1.1 i)) := by unfold g_c; rw [h]; rfl
theorem g_c24 {G : GL} {S : SS} {i : Nat} (h : kd i = 24) : g_c G S i = .inl (g_cA G 0, 24, .inl (S.1.1 i)) := by unfold g_c; rw [h]; rfl
theorem g_c25 {G : GL} {S : SS} {i : Nat} (h : kd i = 25) : g_c G S i = .inl (g_cA G 0, 400, .inl (S.1.1 i)) := by unfold g_c; rw [h]; rfl
theorem g_c26 {G : GL} {S : SS} {i : Nat} (h : kd i = 26) : g_c G S i = .inl (g_cA G 5, 16, .inr (.inr (.inr (.inr (fun k => some (g_ad G (i + 4 + 1 * k))))))) := by unfold g_c; rw [h]; rfl
theorem g_c27 {G : GL} {S : SS} {i : Nat} (h : kd i = 27) : g_c G S i = .inl (g_cA G 3, 400, .inr (.inr (.inr (.inr (fun k => some (g_sg G (S.1.2 i k))))))) := by unfold g_c; rw [h]; rfl
theorem g_c28 {G : GL} {S : SS} {i : Nat} (h : kd i = 28) : g_c G S i = .inl (g_cA G 4, 8, .inr (.inr (.inr (.inr (fun k => some (g_ad G (i + 4 + 3 * k))))))) := by unfold g_c; rw [h]; rfl
theorem g_c29 {G : GL} {S : SS} {i : Nat} (h : kd i = 29) : g_c G S i = .inl (g_cA G 0, 8, .inl (S.1.1 i)) := by unfold g_c; rw [h]; rfl
theorem g_kLen (i : Nat) (h : kd i ≠ 0) : i < 168 := by
  unfold kd at h
  rcases Nat.lt_or_ge i 168 with h1 | h1
  · exact h1
  · exact absurd (by rw [List.getD_eq_getElem?_getD, List.getElem?_eq_none (Nat.le_trans (by decide +kernel : g_kl.length ≤ 168) h1)]; rfl) h
theorem kd_hi {i : Nat} (h : 200 ≤ i) : kd i = 0 := Classical.byContradiction (fun h1 => by have := g_kLen i h1; omega)
theorem g_cl {G : GL} {S : SS} {i : Nat} (h : 200 ≤ i) : g_c G S i = h_c G S.2.1 i := by unfold g_c; rw [kd_hi h]; rfl
theorem h_c50 {G : GL} {y : MS} {i : Nat} (h : h_K y i = 50) : h_c G y i = .inr (13, [.int (h_I y i 0)]) := by unfold h_c; rw [h]; rfl
theorem h_c51 {G : GL} {y : MS} {i : Nat} (h : h_K y i = 51) : h_c G y i = .inr (14, [.int (h_I y i 0), .int (h_I y i 1), g_rf G (h_R y i 2), g_rf G (h_R y i 3)]) := by unfold h_c; rw [h]; rfl
theorem h_c52 {G : GL} {y : MS} {i : Nat} (h : h_K y i = 52) : h_c G y i = .inr (15, [.int (h_I y i 0), .int (h_I y i 1), g_rf G (h_R y i 2), g_rf G (h_R y i 3)]) := by unfold h_c; rw [h]; rfl
theorem h_c53 {G : GL} {y : MS} {i : Nat} (h : h_K y i = 53) : h_c G y i = .inr (16, [.int (h_I y i 0), .int (h_I y i 1), g_rf G (h_R y i 2), g_rf G (h_R y i 3), g_rf G (h_R y i 4), .int (h_I y i 5), .int (h_I y i 6), g_rf G (h_R y i 7), g_rf G (h_R y i 8), g_rf G (h_R y i 9)]) := by unfold h_c; rw [h]; rfl
theorem h_c54 {G : GL} {y : MS} {i : Nat} (h : h_K y i = 54) : h_c G y i = .inr (1, [g_rf G (h_R y i 0), .int (h_I y i 1), .int (h_I y i 2), .int (h_I y i 3)]) := by unfold h_c; rw [h]; rfl
theorem h_c55 {G : GL} {y : MS} {i : Nat} (h : h_K y i = 55) : h_c G y i = .inr (0, [g_rf G (h_R y i 0), .int (h_I y i 1), .int (h_I y i 2), .int (h_I y i 3)]) := by unfold h_c; rw [h]; rfl
theorem h_c60 {G : GL} {y : MS} {i : Nat} (h : h_K y i = 60) : h_c G y i = .inl (g_cA G 0, h_N y i, .inl (h_I y i)) := by unfold h_c; rw [h]; rfl
theorem h_c61 {G : GL} {y : MS} {i : Nat} (h : h_K y i = 61) : h_c G y i = .inl (g_cA G 6, h_N y i, .inl (h_I y i)) := by unfold h_c; rw [h]; rfl
theorem h_c62 {G : GL} {y : MS} {i : Nat} (h : h_K y i = 62) : h_c G y i = .inl (g_cA G 7, h_N y i, .inl (h_I y i)) := by unfold h_c; rw [h]; rfl
theorem h_c63 {G : GL} {y : MS} {i : Nat} (h : h_K y i = 63) : h_c G y i = .inl (g_cA G 8, h_N y i, .inr (.inr (.inr (.inr (fun k => g_ro G (h_R y i k)))))) := by unfold h_c; rw [h]; rfl
theorem h_c64 {G : GL} {y : MS} {i : Nat} (h : h_K y i = 64) : h_c G y i = .inl (g_cA G 9, h_N y i, .inr (.inr (.inr (.inr (fun k => g_ro G (h_R y i k)))))) := by unfold h_c; rw [h]; rfl
theorem h_cc {G : GL} {y y1 : MS} {j : Nat} (h0 : h_K y1 j = h_K y j) (h1 : h_I y1 j = h_I y j) (h2 : h_R y1 j = h_R y j) (h3 : h_N y1 j = h_N y j) : h_c G y1 j = h_c G y j := by
  unfold h_c
  simp only [h0, h1, h2, h3]
theorem g_cc {G : GL} {S S1 : SS} {j : Nat} (h1 : S1.1.1 j = S.1.1 j) (h2 : S1.1.2 j = S.1.2 j) (h3 : h_c G S1.2.1 j = h_c G S.2.1 j) (_ : S1.2.2 = S.2.2) : g_c G S1 j = g_c G S j := by
  unfold g_c
  simp only [h1, h2, h3]
theorem g_ci {G : GL} {x : CS} {y : MS} {o : Nat → Int32} {i k : Nat} {v : Int32} {j : Nat} (h : j ≠ i) : g_c G (g_wi x i k v, y, o) j = g_c G (x, y, o) j := g_cc (by simp [g_wi, h]) rfl rfl rfl
theorem g_cr {G : GL} {x : CS} {y : MS} {o : Nat → Int32} {i k : Nat} {v : Nat} {j : Nat} (h : j ≠ i) : g_c G (g_wr x i k v, y, o) j = g_c G (x, y, o) j := g_cc rfl (by simp [g_wr, h]) rfl rfl
theorem g_ca {G : GL} {x : CS} {y : MS} {o : Nat → Int32} {i : Nat} {f : Nat → Int32} {j : Nat} (h : j ≠ i) : g_c G (g_wa x i f, y, o) j = g_c G (x, y, o) j := g_cc (by simp [g_wa, h]) rfl rfl rfl
theorem h_ci {G : GL} {x : CS} {y : MS} {o : Nat → Int32} {i k : Nat} {v : Int32} {j : Nat} (h : j ≠ i) : g_c G (x, h_wi y i k v, o) j = g_c G (x, y, o) j := g_cc rfl rfl (h_cc rfl (by simp [h_wi, h_I, h]) rfl rfl) rfl
theorem h_cr {G : GL} {x : CS} {y : MS} {o : Nat → Int32} {i k : Nat} {v : Nat} {j : Nat} (h : j ≠ i) : g_c G (x, h_wr y i k v, o) j = g_c G (x, y, o) j := g_cc rfl rfl (h_cc rfl rfl (by simp [h_wr, h_R, h]) rfl) rfl
theorem h_ca {G : GL} {x : CS} {y : MS} {o : Nat → Int32} {i : Nat} {f : Nat → Int32} {j : Nat} (h : j ≠ i) : g_c G (x, h_wa y i f, o) j = g_c G (x, y, o) j := g_cc rfl rfl (h_cc rfl (by simp [h_wa, h_I, h]) rfl rfl) rfl
theorem h_cn {G : GL} {x : CS} {y : MS} {o : Nat → Int32} {k n sl : Nat} {f : Nat → Int32} {r : Nat → Nat} {j : Nat} (h : j ≠ h_nx y) : g_c G (x, h_new y k f r n sl, o) j = g_c G (x, y, o) j := g_cc rfl rfl (h_cc (by simp [h_new, h_K, h]) (by simp [h_new, h_I, h]) (by simp [h_new, h_R, h]) (by simp [h_new, h_N, h])) rfl
def g_wl (G : GL) (ids : List Nat) (S : SS) : va_W := ids.map (fun i => (g_ad G i, g_c G S i))
theorem g_wl_at {G : GL} {ids : List Nat} {S : SS} {q0 i : Nat} {e : va_E} (h : ids[q0]? = some i) (hc : g_c G S i = e) : (g_wl G ids S)[q0]? = some (g_ad G i, e) := by
  simp [g_wl, h, hc]
theorem g_set {G : GL} {ids : List Nat} {S S1 : SS} {q0 i : Nat} (hD : va_D (g_A G) (g_wl G ids S)) (hq : ids[q0]? = some i) (hS : ∀ j, j ≠ i → g_c G S1 j = g_c G S j) : (g_wl G ids S).set q0 (g_ad G i, g_c G S1 i) = g_wl G ids S1 := by
  apply List.ext_getElem?
  intro k
  rw [List.getElem?_set]
  have hlen : q0 < ids.length := (List.getElem?_eq_some_iff.mp hq).1
  by_cases hk : q0 = k
  · subst hk
    have e : ids[q0] = i := (List.getElem?_eq_some_iff.mp hq).2
    simp [g_wl, hlen, e]
  · simp only [hk, if_false]
    simp only [g_wl, List.getElem?_map]
    cases hj : ids[k]? with
    | none => rfl
    | some j =>
      have hne : j ≠ i := fun e => hk (hD.1 q0 k _ _ (g_wl_at hq rfl) (g_wl_at hj rfl) (by rw [e]))
      simp only [Option.map_some, hS j hne]
/-- the world over the heap H, since H0 -/
def g_W (G : GL) (ids : List Nat) (S : SS) (H0 H : Heap) (locs : List Loc) : Prop := va_P (g_D G) vwCl (g_wl G ids S) H ∧ va_D (g_A G) (g_wl G ids S) ∧ va_S (g_A G) H0 H locs
/-- the numbers of the class and of the law -/
def g_is (y : MS) : List Nat := List.range 120 ++ h_ids y
/-! facts of the kinds, by the table -/
theorem kl1_ : ∀ i, i < 168 → kd i = 1 → i < 120 := by decide +kernel
theorem kl1 {i : Nat} (h : kd i = 1) : i < 120 := kl1_ i (g_kLen i (by rw [h]; decide)) h
theorem kl2_ : ∀ i, i < 168 → kd i = 2 → i < 120 := by decide +kernel
theorem kl2 {i : Nat} (h : kd i = 2) : i < 120 := kl2_ i (g_kLen i (by rw [h]; decide)) h
theorem kl3_ : ∀ i, i < 168 → kd i = 3 → i < 120 := by decide +kernel
theorem kl3 {i : Nat} (h : kd i = 3) : i < 120 := kl3_ i (g_kLen i (by rw [h]; decide)) h
theorem kl4_ : ∀ i, i < 168 → kd i = 4 → i < 120 := by decide +kernel
theorem kl4 {i : Nat} (h : kd i = 4) : i < 120 := kl4_ i (g_kLen i (by rw [h]; decide)) h
theorem kl5_ : ∀ i, i < 168 → kd i = 5 → i < 120 := by decide +kernel
theorem kl5 {i : Nat} (h : kd i = 5) : i < 120 := kl5_ i (g_kLen i (by rw [h]; decide)) h
theorem kl6_ : ∀ i, i < 168 → kd i = 6 → i < 120 := by decide +kernel
theorem kl6 {i : Nat} (h : kd i = 6) : i < 120 := kl6_ i (g_kLen i (by rw [h]; decide)) h
theorem kl7_ : ∀ i, i < 168 → kd i = 7 → i < 120 := by decide +kernel
theorem kl7 {i : Nat} (h : kd i = 7) : i < 120 := kl7_ i (g_kLen i (by rw [h]; decide)) h
theorem kl8_ : ∀ i, i < 168 → kd i = 8 → i < 120 := by decide +kernel
theorem kl8 {i : Nat} (h : kd i = 8) : i < 120 := kl8_ i (g_kLen i (by rw [h]; decide)) h
theorem kl9_ : ∀ i, i < 168 → kd i = 9 → i < 120 := by decide +kernel
theorem kl9 {i : Nat} (h : kd i = 9) : i < 120 := kl9_ i (g_kLen i (by rw [h]; decide)) h
theorem kl10_ : ∀ i, i < 168 → kd i = 10 → i < 120 := by decide +kernel
theorem kl10 {i : Nat} (h : kd i = 10) : i < 120 := kl10_ i (g_kLen i (by rw [h]; decide)) h
theorem kl20_ : ∀ i, i < 168 → kd i = 20 → i < 120 := by decide +kernel
theorem kl20 {i : Nat} (h : kd i = 20) : i < 120 := kl20_ i (g_kLen i (by rw [h]; decide)) h
theorem kl21_ : ∀ i, i < 168 → kd i = 21 → i < 120 := by decide +kernel
theorem kl21 {i : Nat} (h : kd i = 21) : i < 120 := kl21_ i (g_kLen i (by rw [h]; decide)) h
theorem kl22_ : ∀ i, i < 168 → kd i = 22 → i < 120 := by decide +kernel
theorem kl22 {i : Nat} (h : kd i = 22) : i < 120 := kl22_ i (g_kLen i (by rw [h]; decide)) h
theorem kl23_ : ∀ i, i < 168 → kd i = 23 → i < 120 := by decide +kernel
theorem kl23 {i : Nat} (h : kd i = 23) : i < 120 := kl23_ i (g_kLen i (by rw [h]; decide)) h
theorem kl24_ : ∀ i, i < 168 → kd i = 24 → i < 120 := by decide +kernel
theorem kl24 {i : Nat} (h : kd i = 24) : i < 120 := kl24_ i (g_kLen i (by rw [h]; decide)) h
theorem kl25_ : ∀ i, i < 168 → kd i = 25 → i < 120 := by decide +kernel
theorem kl25 {i : Nat} (h : kd i = 25) : i < 120 := kl25_ i (g_kLen i (by rw [h]; decide)) h
theorem kl26_ : ∀ i, i < 168 → kd i = 26 → i < 120 := by decide +kernel
theorem kl26 {i : Nat} (h : kd i = 26) : i < 120 := kl26_ i (g_kLen i (by rw [h]; decide)) h
theorem kl27_ : ∀ i, i < 168 → kd i = 27 → i < 120 := by decide +kernel
theorem kl27 {i : Nat} (h : kd i = 27) : i < 120 := kl27_ i (g_kLen i (by rw [h]; decide)) h
theorem kl28_ : ∀ i, i < 168 → kd i = 28 → i < 120 := by decide +kernel
theorem kl28 {i : Nat} (h : kd i = 28) : i < 120 := kl28_ i (g_kLen i (by rw [h]; decide)) h
theorem ko5_0_ : ∀ i, i < 168 → kd i = 5 → kd (i + 1) = 24 := by decide +kernel
theorem ko5_0 {i : Nat} (h : kd i = 5) : kd (i + 1) = 24 := ko5_0_ i (g_kLen i (by rw [h]; decide)) h
theorem ko7_0_ : ∀ i, i < 168 → kd i = 7 → kd (i + 1) = 26 := by decide +kernel
theorem ko7_0 {i : Nat} (h : kd i = 7) : kd (i + 1) = 26 := ko7_0_ i (g_kLen i (by rw [h]; decide)) h
theorem ko7_1_ : ∀ i, i < 168 → kd i = 7 → kd (i + 2) = 8 := by decide +kernel
theorem ko7_1 {i : Nat} (h : kd i = 7) : kd (i + 2) = 8 := ko7_1_ i (g_kLen i (by rw [h]; decide)) h
theorem ko7_2_ : ∀ i, i < 168 → kd i = 7 → kd (i + 3) = 27 := by decide +kernel
theorem ko7_2 {i : Nat} (h : kd i = 7) : kd (i + 3) = 27 := ko7_2_ i (g_kLen i (by rw [h]; decide)) h
theorem ko7_3_ : ∀ i, i < 168 → kd i = 7 → kd (i + 4) = 25 := by decide +kernel
theorem ko7_3 {i : Nat} (h : kd i = 7) : kd (i + 4) = 25 := ko7_3_ i (g_kLen i (by rw [h]; decide)) h
theorem ko9_0_ : ∀ i, i < 168 → kd i = 9 → kd (i + 1) = 28 := by decide +kernel
theorem ko9_0 {i : Nat} (h : kd i = 9) : kd (i + 1) = 28 := ko9_0_ i (g_kLen i (by rw [h]; decide)) h
theorem ko9_1_ : ∀ i, i < 168 → kd i = 9 → kd (i + 2) = 10 := by decide +kernel
theorem ko9_1 {i : Nat} (h : kd i = 9) : kd (i + 2) = 10 := ko9_1_ i (g_kLen i (by rw [h]; decide)) h
theorem ko10_0_ : ∀ i, i < 168 → kd i = 10 → kd (i + 1) = 5 := by decide +kernel
theorem ko10_0 {i : Nat} (h : kd i = 10) : kd (i + 1) = 5 := ko10_0_ i (g_kLen i (by rw [h]; decide)) h
theorem ke28_ : ∀ i, i < 168 → kd i = 28 → ∀ j, j < 8 → kd (i + 4 + 3 * j) = 10 := by decide +kernel
theorem ke28 {i j : Nat} (h : kd i = 28) (hj : j < 8) : kd (i + 4 + 3 * j) = 10 := ke28_ i (g_kLen i (by rw [h]; decide)) h j hj
theorem ke26_ : ∀ i, i < 168 → kd i = 26 → ∀ j, j < 16 → kd (i + 4 + 1 * j) = 8 := by decide +kernel
theorem ke26 {i j : Nat} (h : kd i = 26) (hj : j < 16) : kd (i + 4 + 1 * j) = 8 := ke26_ i (g_kLen i (by rw [h]; decide)) h j hj
