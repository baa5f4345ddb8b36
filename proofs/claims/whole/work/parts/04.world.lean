/-! THE WORLD: the cells of the class, of the reference and of the law, by numbers; what changes is a state of three stores -/
abbrev CS : Type := (Nat → Nat → Int32) × (Nat → Nat → Nat)
abbrev MS : Type := Nat → Nat → Int32
abbrev SS : Type := CS × MS × (Nat → Int32)
def g_wi (x : CS) (i k : Nat) (v : Int32) : CS := (fun j => if j = i then upd (x.1 i) k v else x.1 j, x.2)
def g_wr (x : CS) (i k : Nat) (v : Nat) : CS := (x.1, fun j => if j = i then va_up (x.2 i) k v else x.2 j)
def g_wa (x : CS) (i : Nat) (f : Nat → Int32) : CS := (fun j => if j = i then f else x.1 j, x.2)
def g_mi (x : MS) (i k : Nat) (v : Int32) : MS := fun j => if j = i then upd (x i) k v else x j
def g_ma (x : MS) (i : Nat) (f : Nat → Int32) : MS := fun j => if j = i then f else x j
/-- where things lie: classes, array classes, cells, constants, the first new cell, arrays of the class files, texts and their bytes -/
abbrev GL : Type := va_G × (Nat → ClassId) × (Nat → Nat) × (Nat → Nat) × Nat × (Nat → Nat) × (Nat → Nat) × (Nat → Nat)
def g_D (G : GL) : va_G := G.1
def g_cA (G : GL) : Nat → ClassId := G.2.1
def g_ad (G : GL) : Nat → Nat := G.2.2.1
def g_sg (G : GL) : Nat → Nat := G.2.2.2.1
def g_b (G : GL) : Nat := G.2.2.2.2.1
def g_st (G : GL) : Nat → Nat := G.2.2.2.2.2.1
def g_sK (G : GL) : Nat → Nat := G.2.2.2.2.2.2.1
def g_sV (G : GL) : Nat → Nat := G.2.2.2.2.2.2.2
def g_A (G : GL) : Nat → Prop := fun q => g_b G ≤ q
def g_tys (G : GL) : List (ClassId × FieldType) := [(g_cA G 0, .int), (g_cA G 1, .char), (g_cA G 2, .long), (g_cA G 3, .object RX6), (g_cA G 4, .object RX11), (g_cA G 5, .object RX4)]
def g_kl : List Nat := [1, 2, 20, 3, 21, 22, 22, 22, 4, 23, 5, 24, 5, 24, 5, 24, 5, 24, 6, 25, 7, 26, 8, 27, 25, 8, 8, 8, 8, 8, 8, 8, 8, 8, 8, 8, 8, 8, 8, 8, 8, 9, 28, 10, 5, 24, 10, 5, 24, 10, 5, 24, 10, 5, 24, 10, 5, 24, 10, 5, 24, 10, 5, 24, 10, 5, 24, 10, 5, 24, 7, 26, 8, 27, 25, 8, 8, 8, 8, 8, 8, 8, 8, 8, 8, 8, 8, 8, 8, 8, 8, 9, 28, 10, 5, 24, 10, 5, 24, 10, 5, 24, 10, 5, 24, 10, 5, 24, 10, 5, 24, 10, 5, 24, 10, 5, 24, 10, 5, 24, 12, 30, 31, 31, 31, 31, 32, 13, 33, 34, 35, 35, 35, 35, 35, 35, 36, 36, 36, 13, 33, 34, 35, 35, 35, 35, 35, 35, 36, 36, 36, 36, 14, 33, 34, 32, 14, 33, 34, 32, 37, 38, 11, 29, 39, 40, 0, 0]
def kd (i : Nat) : Nat := g_kl.getD i 0
/-- a cell by its number -/
def g_c (G : GL) (S : SS) (i : Nat) : va_E := match kd i with
  | 1 => .inr (10, [.ref (g_ad G 1), .ref (g_ad G 3), .ref (g_ad G 8), .ref (g_ad G 14), .ref (g_ad G 16), .ref (g_ad G 18), .ref (g_ad G (S.1.2 i 6)), .ref (g_ad G (S.1.2 i 7)), .ref (g_ad G (S.1.2 i 8)), .ref (g_ad G (S.1.2 i 9)), .int (S.1.1 i 10)])
  | 2 => .inr (5, [.ref (g_ad G 2), .int (S.1.1 i 1)])
  | 3 => .inr (6, [.ref (g_ad G 1), .ref (g_ad G 4), .ref (g_ad G 5), .ref (g_ad G 6), .ref (g_ad G 7), .int (S.1.1 i 5)])
  | 4 => .inr (8, [.ref (g_ad G 9), .ref (g_ad G 10), .ref (g_ad G 12)])
  | 5 => .inr (2, [.ref (g_ad G (i + 1)), .int (S.1.1 i 1)])
  | 6 => .inr (0, [.ref (g_ad G 14), .ref (g_ad G 8), .ref (g_ad G 19), .int (S.1.1 i 3)])
  | 7 => .inr (4, [.ref (g_ad G (i + 1)), .ref (g_ad G (i + 2)), .ref (g_ad G (i + 3)), .ref (g_ad G (i + 4)), .int (S.1.1 i 4), .int (S.1.1 i 5), .int (S.1.1 i 6), .int (S.1.1 i 7)])
  | 8 => .inr (3, [.ref (g_sg G (S.1.2 i 0)), .int (S.1.1 i 1), .int (S.1.1 i 2), .int (S.1.1 i 3), .int (S.1.1 i 4)])
  | 9 => .inr (7, [.ref (g_ad G (i + 1)), .ref (g_ad G (i + 2)), .int (S.1.1 i 2), .int (S.1.1 i 3), .int (S.1.1 i 4)])
  | 10 => .inr (9, [.ref (g_ad G (i + 1)), .int (S.1.1 i 1), .int (S.1.1 i 2)])
  | 11 => .inr (1, [.ref (g_ad G 3), .ref (g_ad G (S.1.2 i 1)), .ref (g_ad G (S.1.2 i 2)), .ref (g_ad G 163), .int (S.1.1 i 4), .ref (g_sg G (S.1.2 i 5)), .int (S.1.1 i 6), .int (S.1.1 i 7), .int (S.1.1 i 8), .int (S.1.1 i 9)])
  | 12 => .inr (13, [.int (S.2.1 i 0), .ref (g_ad G 121), .int (S.2.1 i 2), .int (S.2.1 i 3), .ref (g_ad G 122), .ref (g_ad G 123), .ref (g_ad G 124), .ref (g_ad G 125), .int (S.2.1 i 8), .int (S.2.1 i 9), .int (S.2.1 i 10), .int (S.2.1 i 11), .int (S.2.1 i 12), .ref (g_ad G 126), .ref (g_ad G 127), .ref (g_ad G 139), .ref (g_ad G 151), .ref (g_ad G 152), .ref (g_ad G 156), .ref (g_ad G 160)])
  | 13 => .inr (12, [.int (S.2.1 i 0), .int (S.2.1 i 1), .int (S.2.1 i 2), .ref (g_ad G (i + 1)), .ref (g_ad G (i + 2)), .int (S.2.1 i 5), .ref (g_ad G (i + 3)), .ref (g_ad G (i + 4)), .ref (g_ad G (i + 5)), .ref (g_ad G (i + 6)), .ref (g_ad G (i + 7)), .ref (g_ad G (i + 8)), .int (S.2.1 i 12), .ref (g_ad G (i + 9)), .ref (g_ad G (i + 10)), .ref (g_ad G (i + 11))])
  | 14 => .inr (11, [.ref (g_ad G (i + 1)), .ref (g_ad G (i + 2)), .ref (g_ad G (i + 3)), .int (S.2.1 i 3), .int (S.2.1 i 4)])
  | 20 => .inl (g_cA G 1, 2000, .inl (S.1.1 i))
  | 21 => .inl (g_cA G 3, 401, .inr (.inr (.inr (.inr (fun k => some (g_sg G (S.1.2 i k)))))))
  | 22 => .inl (g_cA G 0, 401, .inl (S.1.1 i))
  | 23 => .inl (g_cA G 0, 25, .inl (S.1.1 i))
  | 24 => .inl (g_cA G 0, 24, .inl (S.1.1 i))
  | 25 => .inl (g_cA G 0, 400, .inl (S.1.1 i))
  | 26 => .inl (g_cA G 5, 16, .inr (.inr (.inr (.inr (fun k => some (g_ad G (i + 4 + 1 * k)))))))
  | 27 => .inl (g_cA G 3, 400, .inr (.inr (.inr (.inr (fun k => some (g_sg G (S.1.2 i k)))))))
  | 28 => .inl (g_cA G 4, 8, .inr (.inr (.inr (.inr (fun k => some (g_ad G (i + 4 + 3 * k)))))))
  | 29 => .inl (g_cA G 0, 8, .inl (S.1.1 i))
  | 30 => .inl (g_cA G 0, 2000, .inl (S.2.1 i))
  | 31 => .inl (g_cA G 0, 402, .inl (S.2.1 i))
  | 32 => .inl (g_cA G 0, 8, .inl (S.2.1 i))
  | 33 => .inl (g_cA G 0, 10, .inl (S.2.1 i))
  | 34 => .inl (g_cA G 0, 240, .inl (S.2.1 i))
  | 35 => .inl (g_cA G 0, 17, .inl (S.2.1 i))
  | 36 => .inl (g_cA G 0, 800, .inl (S.2.1 i))
  | 37 => .inl (g_cA G 0, 576, .inl (S.2.1 i))
  | 38 => .inl (g_cA G 2, 1, .inr (.inl (fun k => (S.2.2 k).toInt64)))
  | 39 => .inl (g_cA G 0, 5, .inl (S.2.1 i))
  | 40 => .inl (g_cA G 0, 7, .inl (S.2.1 i))
  | _ => .inr (99, [])
theorem g_c1 {G : GL} {S : SS} {i : Nat} (h : kd i = 1) : g_c G S i = .inr (10, [.ref (g_ad G 1), .ref (g_ad G 3), .ref (g_ad G 8), .ref (g_ad G 14), .ref (g_ad G 16), .ref (g_ad G 18), .ref (g_ad G (S.1.2 i 6)), .ref (g_ad G (S.1.2 i 7)), .ref (g_ad G (S.1.2 i 8)), .ref (g_ad G (S.1.2 i 9)), .int (S.1.1 i 10)]) := by unfold g_c; rw [h]; rfl
theorem g_c2 {G : GL} {S : SS} {i : Nat} (h : kd i = 2) : g_c G S i = .inr (5, [.ref (g_ad G 2), .int (S.1.1 i 1)]) := by unfold g_c; rw [h]; rfl
theorem g_c3 {G : GL} {S : SS} {i : Nat} (h : kd i = 3) : g_c G S i = .inr (6, [.ref (g_ad G 1), .ref (g_ad G 4), .ref (g_ad G 5), .ref (g_ad G 6), .ref (g_ad G 7), .int (S.1.1 i 5)]) := by unfold g_c; rw [h]; rfl
theorem g_c4 {G : GL} {S : SS} {i : Nat} (h : kd i = 4) : g_c G S i = .inr (8, [.ref (g_ad G 9), .ref (g_ad G 10), .ref (g_ad G 12)]) := by unfold g_c; rw [h]; rfl
theorem g_c5 {G : GL} {S : SS} {i : Nat} (h : kd i = 5) : g_c G S i = .inr (2, [.ref (g_ad G (i + 1)), .int (S.1.1 i 1)]) := by unfold g_c; rw [h]; rfl
theorem g_c6 {G : GL} {S : SS} {i : Nat} (h : kd i = 6) : g_c G S i = .inr (0, [.ref (g_ad G 14), .ref (g_ad G 8), .ref (g_ad G 19), .int (S.1.1 i 3)]) := by unfold g_c; rw [h]; rfl
theorem g_c7 {G : GL} {S : SS} {i : Nat} (h : kd i = 7) : g_c G S i = .inr (4, [.ref (g_ad G (i + 1)), .ref (g_ad G (i + 2)), .ref (g_ad G (i + 3)), .ref (g_ad G (i + 4)), .int (S.1.1 i 4), .int (S.1.1 i 5), .int (S.1.1 i 6), .int (S.1.1 i 7)]) := by unfold g_c; rw [h]; rfl
theorem g_c8 {G : GL} {S : SS} {i : Nat} (h : kd i = 8) : g_c G S i = .inr (3, [.ref (g_sg G (S.1.2 i 0)), .int (S.1.1 i 1), .int (S.1.1 i 2), .int (S.1.1 i 3), .int (S.1.1 i 4)]) := by unfold g_c; rw [h]; rfl
theorem g_c9 {G : GL} {S : SS} {i : Nat} (h : kd i = 9) : g_c G S i = .inr (7, [.ref (g_ad G (i + 1)), .ref (g_ad G (i + 2)), .int (S.1.1 i 2), .int (S.1.1 i 3), .int (S.1.1 i 4)]) := by unfold g_c; rw [h]; rfl
theorem g_c10 {G : GL} {S : SS} {i : Nat} (h : kd i = 10) : g_c G S i = .inr (9, [.ref (g_ad G (i + 1)), .int (S.1.1 i 1), .int (S.1.1 i 2)]) := by unfold g_c; rw [h]; rfl
theorem g_c11 {G : GL} {S : SS} {i : Nat} (h : kd i = 11) : g_c G S i = .inr (1, [.ref (g_ad G 3), .ref (g_ad G (S.1.2 i 1)), .ref (g_ad G (S.1.2 i 2)), .ref (g_ad G 163), .int (S.1.1 i 4), .ref (g_sg G (S.1.2 i 5)), .int (S.1.1 i 6), .int (S.1.1 i 7), .int (S.1.1 i 8), .int (S.1.1 i 9)]) := by unfold g_c; rw [h]; rfl
theorem g_c12 {G : GL} {S : SS} {i : Nat} (h : kd i = 12) : g_c G S i = .inr (13, [.int (S.2.1 i 0), .ref (g_ad G 121), .int (S.2.1 i 2), .int (S.2.1 i 3), .ref (g_ad G 122), .ref (g_ad G 123), .ref (g_ad G 124), .ref (g_ad G 125), .int (S.2.1 i 8), .int (S.2.1 i 9), .int (S.2.1 i 10), .int (S.2.1 i 11), .int (S.2.1 i 12), .ref (g_ad G 126), .ref (g_ad G 127), .ref (g_ad G 139), .ref (g_ad G 151), .ref (g_ad G 152), .ref (g_ad G 156), .ref (g_ad G 160)]) := by unfold g_c; rw [h]; rfl
theorem g_c13 {G : GL} {S : SS} {i : Nat} (h : kd i = 13) : g_c G S i = .inr (12, [.int (S.2.1 i 0), .int (S.2.1 i 1), .int (S.2.1 i 2), .ref (g_ad G (i + 1)), .ref (g_ad G (i + 2)), .int (S.2.1 i 5), .ref (g_ad G (i + 3)), .ref (g_ad G (i + 4)), .ref (g_ad G (i + 5)), .ref (g_ad G (i + 6)), .ref (g_ad G (i + 7)), .ref (g_ad G (i + 8)), .int (S.2.1 i 12), .ref (g_ad G (i + 9)), .ref (g_ad G (i + 10)), .ref (g_ad G (i + 11))]) := by unfold g_c; rw [h]; rfl
theorem g_c14 {G : GL} {S : SS} {i : Nat} (h : kd i = 14) : g_c G S i = .inr (11, [.ref (g_ad G (i + 1)), .ref (g_ad G (i + 2)), .ref (g_ad G (i + 3)), .int (S.2.1 i 3), .int (S.2.1 i 4)]) := by unfold g_c; rw [h]; rfl
theorem g_c20 {G : GL} {S : SS} {i : Nat} (h : kd i = 20) : g_c G S i = .inl (g_cA G 1, 2000, .inl (S.1.1 i)) := by unfold g_c; rw [h]; rfl
theorem g_c21 {G : GL} {S : SS} {i : Nat} (h : kd i = 21) : g_c G S i = .inl (g_cA G 3, 401, .inr (.inr (.inr (.inr (fun k => some (g_sg G (S.1.2 i k))))))) := by unfold g_c; rw [h]; rfl
theorem g_c22 {G : GL} {S : SS} {i : Nat} (h : kd i = 22) : g_c G S i = .inl (g_cA G 0, 401, .inl (S.1.1 i)) := by unfold g_c; rw [h]; rfl
theorem g_c23 {G : GL} {S : SS} {i : Nat} (h : kd i = 23) : g_c G S i = .inl (g_cA G 0, 25, .inl (S.1.1 i)) := by unfold g_c; rw [h]; rfl
theorem g_c24 {G : GL} {S : SS} {i : Nat} (h : kd i = 24) : g_c G S i = .inl (g_cA G 0, 24, .inl (S.1.1 i)) := by unfold g_c; rw [h]; rfl
theorem g_c25 {G : GL} {S : SS} {i : Nat} (h : kd i = 25) : g_c G S i = .inl (g_cA G 0, 400, .inl (S.1.1 i)) := by unfold g_c; rw [h]; rfl
theorem g_c26 {G : GL} {S : SS} {i : Nat} (h : kd i = 26) : g_c G S i = .inl (g_cA G 5, 16, .inr (.inr (.inr (.inr (fun k => some (g_ad G (i + 4 + 1 * k))))))) := by unfold g_c; rw [h]; rfl
theorem g_c27 {G : GL} {S : SS} {i : Nat} (h : kd i = 27) : g_c G S i = .inl (g_cA G 3, 400, .inr (.inr (.inr (.inr (fun k => some (g_sg G (S.1.2 i k))))))) := by unfold g_c; rw [h]; rfl
theorem g_c28 {G : GL} {S : SS} {i : Nat} (h : kd i = 28) : g_c G S i = .inl (g_cA G 4, 8, .inr (.inr (.inr (.inr (fun k => some (g_ad G (i + 4 + 3 * k))))))) := by unfold g_c; rw [h]; rfl
theorem g_c29 {G : GL} {S : SS} {i : Nat} (h : kd i = 29) : g_c G S i = .inl (g_cA G 0, 8, .inl (S.1.1 i)) := by unfold g_c; rw [h]; rfl
theorem g_c30 {G : GL} {S : SS} {i : Nat} (h : kd i = 30) : g_c G S i = .inl (g_cA G 0, 2000, .inl (S.2.1 i)) := by unfold g_c; rw [h]; rfl
theorem g_c31 {G : GL} {S : SS} {i : Nat} (h : kd i = 31) : g_c G S i = .inl (g_cA G 0, 402, .inl (S.2.1 i)) := by unfold g_c; rw [h]; rfl
theorem g_c32 {G : GL} {S : SS} {i : Nat} (h : kd i = 32) : g_c G S i = .inl (g_cA G 0, 8, .inl (S.2.1 i)) := by unfold g_c; rw [h]; rfl
theorem g_c33 {G : GL} {S : SS} {i : Nat} (h : kd i = 33) : g_c G S i = .inl (g_cA G 0, 10, .inl (S.2.1 i)) := by unfold g_c; rw [h]; rfl
theorem g_c34 {G : GL} {S : SS} {i : Nat} (h : kd i = 34) : g_c G S i = .inl (g_cA G 0, 240, .inl (S.2.1 i)) := by unfold g_c; rw [h]; rfl
theorem g_c35 {G : GL} {S : SS} {i : Nat} (h : kd i = 35) : g_c G S i = .inl (g_cA G 0, 17, .inl (S.2.1 i)) := by unfold g_c; rw [h]; rfl
theorem g_c36 {G : GL} {S : SS} {i : Nat} (h : kd i = 36) : g_c G S i = .inl (g_cA G 0, 800, .inl (S.2.1 i)) := by unfold g_c; rw [h]; rfl
theorem g_c37 {G : GL} {S : SS} {i : Nat} (h : kd i = 37) : g_c G S i = .inl (g_cA G 0, 576, .inl (S.2.1 i)) := by unfold g_c; rw [h]; rfl
theorem g_c38 {G : GL} {S : SS} {i : Nat} (h : kd i = 38) : g_c G S i = .inl (g_cA G 2, 1, .inr (.inl (fun k => (S.2.2 k).toInt64))) := by unfold g_c; rw [h]; rfl
theorem g_c39 {G : GL} {S : SS} {i : Nat} (h : kd i = 39) : g_c G S i = .inl (g_cA G 0, 5, .inl (S.2.1 i)) := by unfold g_c; rw [h]; rfl
theorem g_c40 {G : GL} {S : SS} {i : Nat} (h : kd i = 40) : g_c G S i = .inl (g_cA G 0, 7, .inl (S.2.1 i)) := by unfold g_c; rw [h]; rfl
theorem g_cc {G : GL} {S S1 : SS} {j : Nat} (h1 : S1.1.1 j = S.1.1 j) (h2 : S1.1.2 j = S.1.2 j) (h3 : S1.2.1 j = S.2.1 j) (h4 : S1.2.2 = S.2.2) : g_c G S1 j = g_c G S j := by
  unfold g_c
  simp only [h1, h2, h3, h4]
theorem g_kLen (i : Nat) (h : kd i ≠ 0) : i < 168 := by
  unfold kd at h
  rcases Nat.lt_or_ge i 168 with h1 | h1
  · exact h1
  · exact absurd (by rw [List.getD_eq_getElem?_getD, List.getElem?_eq_none (Nat.le_trans (by decide +kernel : g_kl.length ≤ 168) h1)]; rfl) h
theorem g_kAll : ∀ i, i < 168 → kd i = 38 → i = 161 := by decide +kernel
theorem g_kOne (i : Nat) (h : kd i = 38) : i = 161 := g_kAll i (g_kLen i (by rw [h]; decide)) h
theorem g_co {G : GL} {x : CS} {y : MS} {o o1 : Nat → Int32} {i j : Nat} (h : kd i = 38) (hj : j ≠ i) : g_c G (x, y, o1) j = g_c G (x, y, o) j := by
  have hi : i = 161 := by
    have := g_kOne i h
    exact this
  subst hi
  unfold g_c
  split <;> first | rfl | (exfalso; rename_i hk; exact hj (g_kOne j hk))
theorem g_ci {G : GL} {x : CS} {y : MS} {o : Nat → Int32} {i k : Nat} {v : Int32} {j : Nat} (h : j ≠ i) : g_c G (g_wi x i k v, y, o) j = g_c G (x, y, o) j := g_cc (by simp [g_wi, h]) rfl rfl rfl
theorem g_cr {G : GL} {x : CS} {y : MS} {o : Nat → Int32} {i k : Nat} {v : Nat} {j : Nat} (h : j ≠ i) : g_c G (g_wr x i k v, y, o) j = g_c G (x, y, o) j := g_cc rfl (by simp [g_wr, h]) rfl rfl
theorem g_ca {G : GL} {x : CS} {y : MS} {o : Nat → Int32} {i : Nat} {f : Nat → Int32} {j : Nat} (h : j ≠ i) : g_c G (g_wa x i f, y, o) j = g_c G (x, y, o) j := g_cc (by simp [g_wa, h]) rfl rfl rfl
theorem g_cmi {G : GL} {x : CS} {y : MS} {o : Nat → Int32} {i k : Nat} {v : Int32} {j : Nat} (h : j ≠ i) : g_c G (x, g_mi y i k v, o) j = g_c G (x, y, o) j := g_cc rfl rfl (by simp [g_mi, h]) rfl
theorem g_cma {G : GL} {x : CS} {y : MS} {o : Nat → Int32} {i : Nat} {f : Nat → Int32} {j : Nat} (h : j ≠ i) : g_c G (x, g_ma y i f, o) j = g_c G (x, y, o) j := g_cc rfl rfl (by simp [g_ma, h]) rfl
def g_wl (G : GL) (ids : List Nat) (S : SS) : va_W := ids.map (fun i => (g_ad G i, g_c G S i))
theorem g_wl_at {G : GL} {ids : List Nat} {S : SS} {q0 i : Nat} {e : va_E} (h : ids[q0]? = some i) (hc : g_c G S i = e) : (g_wl G ids S)[q0]? = some (g_ad G i, e) := by
  simp [g_wl, h, hc]
theorem g_set {G : GL} {ids : List Nat} {S S1 : SS} {q0 i : Nat} (hD : va_D (g_A G) (g_wl G ids S)) (hq : ids[q0]? = some i) (hS : ∀ j, j ≠ i → g_c G S1 j = g_c G S j) : (g_wl G ids S).set q0 (g_ad G i, g_c G S1 i) = g_wl G ids S1 := by
  apply List.ext_getElem?
  intro k
  rw [List.getElem?_set]
  have hlen : q0 < ids.length := (List.getElem?_eq_some_iff.mp hq).1
  by_cases hk : q0 = k
  · subst hk
    have e : ids[q0] = i := (List.getElem?_eq_some_iff.mp hq).2
    simp [g_wl, hlen, e]
  · simp only [hk, if_false]
    simp only [g_wl, List.getElem?_map]
    cases hj : ids[k]? with
    | none => rfl
    | some j =>
      have hne : j ≠ i := fun e => hk (hD.1 q0 k _ _ (g_wl_at hq rfl) (g_wl_at hj rfl) (by rw [e]))
      simp only [Option.map_some, hS j hne]
/-- the world over the heap H, since H0 -/
def g_W (G : GL) (ids : List Nat) (S : SS) (H0 H : Heap) (locs : List Loc) : Prop := va_P (g_D G) vwCl (g_wl G ids S) H ∧ va_D (g_A G) (g_wl G ids S) ∧ va_S (g_A G) H0 H locs
/-! facts of the kinds, by the table -/
theorem kl1_ : ∀ i, i < 168 → kd i = 1 → i < 161 := by decide +kernel
theorem kl1 {i : Nat} (h : kd i = 1) : i < 161 := kl1_ i (g_kLen i (by rw [h]; decide)) h
theorem kl2_ : ∀ i, i < 168 → kd i = 2 → i < 161 := by decide +kernel
theorem kl2 {i : Nat} (h : kd i = 2) : i < 161 := kl2_ i (g_kLen i (by rw [h]; decide)) h
theorem kl3_ : ∀ i, i < 168 → kd i = 3 → i < 161 := by decide +kernel
theorem kl3 {i : Nat} (h : kd i = 3) : i < 161 := kl3_ i (g_kLen i (by rw [h]; decide)) h
theorem kl4_ : ∀ i, i < 168 → kd i = 4 → i < 161 := by decide +kernel
theorem kl4 {i : Nat} (h : kd i = 4) : i < 161 := kl4_ i (g_kLen i (by rw [h]; decide)) h
theorem kl5_ : ∀ i, i < 168 → kd i = 5 → i < 161 := by decide +kernel
theorem kl5 {i : Nat} (h : kd i = 5) : i < 161 := kl5_ i (g_kLen i (by rw [h]; decide)) h
theorem kl6_ : ∀ i, i < 168 → kd i = 6 → i < 161 := by decide +kernel
theorem kl6 {i : Nat} (h : kd i = 6) : i < 161 := kl6_ i (g_kLen i (by rw [h]; decide)) h
theorem kl7_ : ∀ i, i < 168 → kd i = 7 → i < 161 := by decide +kernel
theorem kl7 {i : Nat} (h : kd i = 7) : i < 161 := kl7_ i (g_kLen i (by rw [h]; decide)) h
theorem kl8_ : ∀ i, i < 168 → kd i = 8 → i < 161 := by decide +kernel
theorem kl8 {i : Nat} (h : kd i = 8) : i < 161 := kl8_ i (g_kLen i (by rw [h]; decide)) h
theorem kl9_ : ∀ i, i < 168 → kd i = 9 → i < 161 := by decide +kernel
theorem kl9 {i : Nat} (h : kd i = 9) : i < 161 := kl9_ i (g_kLen i (by rw [h]; decide)) h
theorem kl10_ : ∀ i, i < 168 → kd i = 10 → i < 161 := by decide +kernel
theorem kl10 {i : Nat} (h : kd i = 10) : i < 161 := kl10_ i (g_kLen i (by rw [h]; decide)) h
theorem kl12_ : ∀ i, i < 168 → kd i = 12 → i < 161 := by decide +kernel
theorem kl12 {i : Nat} (h : kd i = 12) : i < 161 := kl12_ i (g_kLen i (by rw [h]; decide)) h
theorem kl13_ : ∀ i, i < 168 → kd i = 13 → i < 161 := by decide +kernel
theorem kl13 {i : Nat} (h : kd i = 13) : i < 161 := kl13_ i (g_kLen i (by rw [h]; decide)) h
theorem kl14_ : ∀ i, i < 168 → kd i = 14 → i < 161 := by decide +kernel
theorem kl14 {i : Nat} (h : kd i = 14) : i < 161 := kl14_ i (g_kLen i (by rw [h]; decide)) h
theorem kl20_ : ∀ i, i < 168 → kd i = 20 → i < 161 := by decide +kernel
theorem kl20 {i : Nat} (h : kd i = 20) : i < 161 := kl20_ i (g_kLen i (by rw [h]; decide)) h
theorem kl21_ : ∀ i, i < 168 → kd i = 21 → i < 161 := by decide +kernel
theorem kl21 {i : Nat} (h : kd i = 21) : i < 161 := kl21_ i (g_kLen i (by rw [h]; decide)) h
theorem kl22_ : ∀ i, i < 168 → kd i = 22 → i < 161 := by decide +kernel
theorem kl22 {i : Nat} (h : kd i = 22) : i < 161 := kl22_ i (g_kLen i (by rw [h]; decide)) h
theorem kl23_ : ∀ i, i < 168 → kd i = 23 → i < 161 := by decide +kernel
theorem kl23 {i : Nat} (h : kd i = 23) : i < 161 := kl23_ i (g_kLen i (by rw [h]; decide)) h
theorem kl24_ : ∀ i, i < 168 → kd i = 24 → i < 161 := by decide +kernel
theorem kl24 {i : Nat} (h : kd i = 24) : i < 161 := kl24_ i (g_kLen i (by rw [h]; decide)) h
theorem kl25_ : ∀ i, i < 168 → kd i = 25 → i < 161 := by decide +kernel
theorem kl25 {i : Nat} (h : kd i = 25) : i < 161 := kl25_ i (g_kLen i (by rw [h]; decide)) h
theorem kl26_ : ∀ i, i < 168 → kd i = 26 → i < 161 := by decide +kernel
theorem kl26 {i : Nat} (h : kd i = 26) : i < 161 := kl26_ i (g_kLen i (by rw [h]; decide)) h
theorem kl27_ : ∀ i, i < 168 → kd i = 27 → i < 161 := by decide +kernel
theorem kl27 {i : Nat} (h : kd i = 27) : i < 161 := kl27_ i (g_kLen i (by rw [h]; decide)) h
theorem kl28_ : ∀ i, i < 168 → kd i = 28 → i < 161 := by decide +kernel
theorem kl28 {i : Nat} (h : kd i = 28) : i < 161 := kl28_ i (g_kLen i (by rw [h]; decide)) h
theorem kl30_ : ∀ i, i < 168 → kd i = 30 → i < 161 := by decide +kernel
theorem kl30 {i : Nat} (h : kd i = 30) : i < 161 := kl30_ i (g_kLen i (by rw [h]; decide)) h
theorem kl31_ : ∀ i, i < 168 → kd i = 31 → i < 161 := by decide +kernel
theorem kl31 {i : Nat} (h : kd i = 31) : i < 161 := kl31_ i (g_kLen i (by rw [h]; decide)) h
theorem kl32_ : ∀ i, i < 168 → kd i = 32 → i < 161 := by decide +kernel
theorem kl32 {i : Nat} (h : kd i = 32) : i < 161 := kl32_ i (g_kLen i (by rw [h]; decide)) h
theorem kl33_ : ∀ i, i < 168 → kd i = 33 → i < 161 := by decide +kernel
theorem kl33 {i : Nat} (h : kd i = 33) : i < 161 := kl33_ i (g_kLen i (by rw [h]; decide)) h
theorem kl34_ : ∀ i, i < 168 → kd i = 34 → i < 161 := by decide +kernel
theorem kl34 {i : Nat} (h : kd i = 34) : i < 161 := kl34_ i (g_kLen i (by rw [h]; decide)) h
theorem kl35_ : ∀ i, i < 168 → kd i = 35 → i < 161 := by decide +kernel
theorem kl35 {i : Nat} (h : kd i = 35) : i < 161 := kl35_ i (g_kLen i (by rw [h]; decide)) h
theorem kl36_ : ∀ i, i < 168 → kd i = 36 → i < 161 := by decide +kernel
theorem kl36 {i : Nat} (h : kd i = 36) : i < 161 := kl36_ i (g_kLen i (by rw [h]; decide)) h
theorem kl37_ : ∀ i, i < 168 → kd i = 37 → i < 161 := by decide +kernel
theorem kl37 {i : Nat} (h : kd i = 37) : i < 161 := kl37_ i (g_kLen i (by rw [h]; decide)) h
theorem ko5_0_ : ∀ i, i < 168 → kd i = 5 → kd (i + 1) = 24 := by decide +kernel
theorem ko5_0 {i : Nat} (h : kd i = 5) : kd (i + 1) = 24 := ko5_0_ i (g_kLen i (by rw [h]; decide)) h
theorem ko7_0_ : ∀ i, i < 168 → kd i = 7 → kd (i + 1) = 26 := by decide +kernel
theorem ko7_0 {i : Nat} (h : kd i = 7) : kd (i + 1) = 26 := ko7_0_ i (g_kLen i (by rw [h]; decide)) h
theorem ko7_1_ : ∀ i, i < 168 → kd i = 7 → kd (i + 2) = 8 := by decide +kernel
theorem ko7_1 {i : Nat} (h : kd i = 7) : kd (i + 2) = 8 := ko7_1_ i (g_kLen i (by rw [h]; decide)) h
theorem ko7_2_ : ∀ i, i < 168 → kd i = 7 → kd (i + 3) = 27 := by decide +kernel
theorem ko7_2 {i : Nat} (h : kd i = 7) : kd (i + 3) = 27 := ko7_2_ i (g_kLen i (by rw [h]; decide)) h
theorem ko7_3_ : ∀ i, i < 168 → kd i = 7 → kd (i + 4) = 25 := by decide +kernel
theorem ko7_3 {i : Nat} (h : kd i = 7) : kd (i + 4) = 25 := ko7_3_ i (g_kLen i (by rw [h]; decide)) h
theorem ko9_0_ : ∀ i, i < 168 → kd i = 9 → kd (i + 1) = 28 := by decide +kernel
theorem ko9_0 {i : Nat} (h : kd i = 9) : kd (i + 1) = 28 := ko9_0_ i (g_kLen i (by rw [h]; decide)) h
theorem ko9_1_ : ∀ i, i < 168 → kd i = 9 → kd (i + 2) = 10 := by decide +kernel
theorem ko9_1 {i : Nat} (h : kd i = 9) : kd (i + 2) = 10 := ko9_1_ i (g_kLen i (by rw [h]; decide)) h
theorem ko10_0_ : ∀ i, i < 168 → kd i = 10 → kd (i + 1) = 5 := by decide +kernel
theorem ko10_0 {i : Nat} (h : kd i = 10) : kd (i + 1) = 5 := ko10_0_ i (g_kLen i (by rw [h]; decide)) h
theorem ko14_0_ : ∀ i, i < 168 → kd i = 14 → kd (i + 1) = 33 := by decide +kernel
theorem ko14_0 {i : Nat} (h : kd i = 14) : kd (i + 1) = 33 := ko14_0_ i (g_kLen i (by rw [h]; decide)) h
theorem ko14_1_ : ∀ i, i < 168 → kd i = 14 → kd (i + 2) = 34 := by decide +kernel
theorem ko14_1 {i : Nat} (h : kd i = 14) : kd (i + 2) = 34 := ko14_1_ i (g_kLen i (by rw [h]; decide)) h
theorem ko14_2_ : ∀ i, i < 168 → kd i = 14 → kd (i + 3) = 32 := by decide +kernel
theorem ko14_2 {i : Nat} (h : kd i = 14) : kd (i + 3) = 32 := ko14_2_ i (g_kLen i (by rw [h]; decide)) h
theorem ko13_3_ : ∀ i, i < 168 → kd i = 13 → kd (i + 1) = 33 := by decide +kernel
theorem ko13_3 {i : Nat} (h : kd i = 13) : kd (i + 1) = 33 := ko13_3_ i (g_kLen i (by rw [h]; decide)) h
theorem ko13_4_ : ∀ i, i < 168 → kd i = 13 → kd (i + 2) = 34 := by decide +kernel
theorem ko13_4 {i : Nat} (h : kd i = 13) : kd (i + 2) = 34 := ko13_4_ i (g_kLen i (by rw [h]; decide)) h
theorem ko13_6_ : ∀ i, i < 168 → kd i = 13 → kd (i + 3) = 35 := by decide +kernel
theorem ko13_6 {i : Nat} (h : kd i = 13) : kd (i + 3) = 35 := ko13_6_ i (g_kLen i (by rw [h]; decide)) h
theorem ko13_7_ : ∀ i, i < 168 → kd i = 13 → kd (i + 4) = 35 := by decide +kernel
theorem ko13_7 {i : Nat} (h : kd i = 13) : kd (i + 4) = 35 := ko13_7_ i (g_kLen i (by rw [h]; decide)) h
theorem ko13_8_ : ∀ i, i < 168 → kd i = 13 → kd (i + 5) = 35 := by decide +kernel
theorem ko13_8 {i : Nat} (h : kd i = 13) : kd (i + 5) = 35 := ko13_8_ i (g_kLen i (by rw [h]; decide)) h
theorem ko13_9_ : ∀ i, i < 168 → kd i = 13 → kd (i + 6) = 35 := by decide +kernel
theorem ko13_9 {i : Nat} (h : kd i = 13) : kd (i + 6) = 35 := ko13_9_ i (g_kLen i (by rw [h]; decide)) h
theorem ko13_10_ : ∀ i, i < 168 → kd i = 13 → kd (i + 7) = 35 := by decide +kernel
theorem ko13_10 {i : Nat} (h : kd i = 13) : kd (i + 7) = 35 := ko13_10_ i (g_kLen i (by rw [h]; decide)) h
theorem ko13_11_ : ∀ i, i < 168 → kd i = 13 → kd (i + 8) = 35 := by decide +kernel
theorem ko13_11 {i : Nat} (h : kd i = 13) : kd (i + 8) = 35 := ko13_11_ i (g_kLen i (by rw [h]; decide)) h
theorem ko13_13_ : ∀ i, i < 168 → kd i = 13 → kd (i + 9) = 36 := by decide +kernel
theorem ko13_13 {i : Nat} (h : kd i = 13) : kd (i + 9) = 36 := ko13_13_ i (g_kLen i (by rw [h]; decide)) h
theorem ko13_14_ : ∀ i, i < 168 → kd i = 13 → kd (i + 10) = 36 := by decide +kernel
theorem ko13_14 {i : Nat} (h : kd i = 13) : kd (i + 10) = 36 := ko13_14_ i (g_kLen i (by rw [h]; decide)) h
theorem ko13_15_ : ∀ i, i < 168 → kd i = 13 → kd (i + 11) = 36 := by decide +kernel
theorem ko13_15 {i : Nat} (h : kd i = 13) : kd (i + 11) = 36 := ko13_15_ i (g_kLen i (by rw [h]; decide)) h
theorem ke28_ : ∀ i, i < 168 → kd i = 28 → ∀ j, j < 8 → kd (i + 4 + 3 * j) = 10 := by decide +kernel
theorem ke28 {i j : Nat} (h : kd i = 28) (hj : j < 8) : kd (i + 4 + 3 * j) = 10 := ke28_ i (g_kLen i (by rw [h]; decide)) h j hj
theorem ke26_ : ∀ i, i < 168 → kd i = 26 → ∀ j, j < 16 → kd (i + 4 + 1 * j) = 8 := by decide +kernel
theorem ke26 {i j : Nat} (h : kd i = 26) (hj : j < 16) : kd (i + 4 + 1 * j) = 8 := ke26_ i (g_kLen i (by rw [h]; decide)) h j hj
