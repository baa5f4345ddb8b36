/-! the whole class's and the whole reference's constructor: their lists become the world by numbers -/
def g_re (G : GL) (f : Nat → Nat) : GL := (G.1, G.2.1, f, G.2.2.2)
def g_x0 : CS := (fun i => match kd i with | 1 => (fun k => if k = 10 then -1 else 0) | 7 => (fun k => if k = 6 then 4 else if k = 7 then 6 else 0) | 8 => (fun k => if k = 1 then -1 else 0) | 10 => (fun k => if k = 2 then 999 else 0) | _ => fun _ => 0, fun i => match kd i with | 1 => (fun k => if k = 6 then 20 else if k = 7 then 41 else if k = 8 then 70 else 91) | 8 => (fun _ => 9) | 21 => (fun _ => 44) | 27 => (fun _ => 44) | _ => fun _ => 0)
def g_y0 : MS := fun i => match kd i with | 12 => (fun k => if k = 3 then -1 else 0) | 13 => (fun k => if k = 0 then 4 else if k = 1 then 6 else 0) | _ => fun _ => 0
theorem g_atqV {D : va_G} {cl : List vw_C} {H : Heap} {a n : Nat} {cA : ClassId} {f g : Nat → Option Nat} (h : ∀ j, j < n → f j = g j) (hP : va_at D cl (a, .inl (cA, n, .inr (.inr (.inr (.inr f))))) H) : va_at D cl (a, .inl (cA, n, .inr (.inr (.inr (.inr g))))) H := by
  show H[a]? = some (vp_cell cA (n, .inr (.inr (.inr (.inr g)))))
  rw [← g_arrc h]
  exact hP
theorem g_Dn {A : Nat → Prop} {ws : va_W} : va_D A ws ↔ (ws.map Prod.fst).Nodup ∧ ∀ a ∈ ws.map Prod.fst, A a := by
  constructor
  · intro h
    refine ⟨List.pairwise_iff_getElem.mpr (fun i j hi hj hij he => ?_), fun a ha => ?_⟩
    · have hjl : j < ws.length := by simpa using hj
      have hil : i < ws.length := by simpa using hi
      rw [List.getElem_map, List.getElem_map] at he
      have := h.1 i j _ _ (List.getElem?_eq_getElem hil) (List.getElem?_eq_getElem hjl) he
      omega
    · obtain ⟨q, hq, rfl⟩ := List.mem_map.mp ha
      obtain ⟨k, hk⟩ := List.getElem?_of_mem hq
      exact h.2 k q hk
  · intro h
    refine ⟨fun i j p q hp hq he => ?_, fun k q hk => h.2 _ (List.mem_map.mpr ⟨q, List.mem_of_getElem? hk, rfl⟩)⟩
    obtain ⟨hil, e1⟩ := List.getElem?_eq_some_iff.mp hp
    obtain ⟨hjl, e2⟩ := List.getElem?_eq_some_iff.mp hq
    have hnd := List.pairwise_iff_getElem.mp h.1
    have key : ∀ i j (hi : i < ws.length) (hj : j < ws.length), i < j → ws[i].1 ≠ ws[j].1 := fun i j hi hj hij => by
      have := hnd i j (by simpa using hi) (by simpa using hj) hij
      simpa using this
    rcases Nat.lt_trichotomy i j with h1 | h1 | h1
    · exact absurd (by rw [e1, e2, he]) (key i j hil hjl h1)
    · exact h1
    · exact absurd (by rw [e1, e2, he]) (key j i hjl hil h1)
theorem g_wl_fst {G : GL} {ids : List Nat} {S : SS} : (g_wl G ids S).map Prod.fst = ids.map (g_ad G) := by
  simp [g_wl, Function.comp_def]
theorem g_toP {G : GL} {ids : List Nat} {S : SS} {H : Heap} (h : ∀ i ∈ ids, va_at (g_D G) vwCl (g_ad G i, g_c G S i) H) : va_P (g_D G) vwCl (g_wl G ids S) H := by
  intro k q hk
  obtain ⟨i, hi, rfl⟩ := List.mem_map.mp (List.mem_of_getElem? hk)
  exact h i hi
theorem g_ofP {G : GL} {ids : List Nat} {S : SS} {H : Heap} (h : va_P (g_D G) vwCl (g_wl G ids S) H) {i : Nat} (hi : i ∈ ids) : va_at (g_D G) vwCl (g_ad G i, g_c G S i) H := by
  obtain ⟨k, hk⟩ := List.getElem?_of_mem hi
  exact h k _ (g_wl_at hk rfl)
/-- the references that the class's store holds are cells of the class -/
def g_okR (x : CS) : Prop := x.2 0 6 < 120 ∧ x.2 0 7 < 120 ∧ x.2 0 8 < 120 ∧ x.2 0 9 < 120

/-- a cell of the world under another table of addresses that agrees below N -/
theorem g_reat {G : GL} {f : Nat → Nat} {S : SS} {H : Heap} {N i : Nat} (hN : N = 120 ∨ N = 161 ∨ N = 162) (hf : ∀ j, j < N → f j = g_ad G j) (hx : g_okR S.1) (hi : i < N) (h : va_at (g_D G) vwCl (g_ad G i, g_c G S i) H) : va_at (g_D G) vwCl (f i, g_c (g_re G f) S i) H := by
  have hb : ∀ r, r < 120 → f r = g_ad G r := fun r hr => hf r (by rcases hN with rfl | rfl | rfl <;> omega)
  rw [hf i hi]
  have hlt : i < 162 := by rcases hN with rfl | rfl | rfl <;> omega
  have hkk : kd i = 0 ∨ kd i = 1 ∨ kd i = 2 ∨ kd i = 3 ∨ kd i = 4 ∨ kd i = 5 ∨ kd i = 6 ∨ kd i = 7 ∨ kd i = 8 ∨ kd i = 9 ∨ kd i = 10 ∨ kd i = 12 ∨ kd i = 13 ∨ kd i = 14 ∨ kd i = 20 ∨ kd i = 21 ∨ kd i = 22 ∨ kd i = 23 ∨ kd i = 24 ∨ kd i = 25 ∨ kd i = 26 ∨ kd i = 27 ∨ kd i = 28 ∨ kd i = 30 ∨ kd i = 31 ∨ kd i = 32 ∨ kd i = 33 ∨ kd i = 34 ∨ kd i = 35 ∨ kd i = 36 ∨ kd i = 37 ∨ kd i = 38 := (by decide +kernel : ∀ i, i < 162 → kd i = 0 ∨ kd i = 1 ∨ kd i = 2 ∨ kd i = 3 ∨ kd i = 4 ∨ kd i = 5 ∨ kd i = 6 ∨ kd i = 7 ∨ kd i = 8 ∨ kd i = 9 ∨ kd i = 10 ∨ kd i = 12 ∨ kd i = 13 ∨ kd i = 14 ∨ kd i = 20 ∨ kd i = 21 ∨ kd i = 22 ∨ kd i = 23 ∨ kd i = 24 ∨ kd i = 25 ∨ kd i = 26 ∨ kd i = 27 ∨ kd i = 28 ∨ kd i = 30 ∨ kd i = 31 ∨ kd i = 32 ∨ kd i = 33 ∨ kd i = 34 ∨ kd i = 35 ∨ kd i = 36 ∨ kd i = 37 ∨ kd i = 38) i hlt
  rcases hkk with hk | hk | hk | hk | hk | hk | hk | hk | hk | hk | hk | hk | hk | hk | hk | hk | hk | hk | hk | hk | hk | hk | hk | hk | hk | hk | hk | hk | hk | hk | hk | hk
  · exact absurd hk (by rcases hN with rfl | rfl | rfl <;> exact (by decide +kernel : ∀ i, i < 162 → ¬ kd i = 0) i hlt)
  · obtain rfl : i = 0 := (by decide +kernel : ∀ i, i < 162 → kd i = 1 → i = 0) i hlt hk
    rw [g_c1 hk] at h ⊢
    simp only [g_re, g_ad] at h ⊢ hb
    rw [hb _ hx.1, hb _ hx.2.1, hb _ hx.2.2.1, hb _ hx.2.2.2, hb 1 (by decide), hb 3 (by decide), hb 8 (by decide), hb 14 (by decide), hb 16 (by decide), hb 18 (by decide)]
    exact h
  · rw [g_c2 hk] at h ⊢
    simp only [g_re, g_ad] at h ⊢ hf
    rw [hf 2 (by rcases hN with rfl | rfl | rfl <;> first | decide | exact absurd (Nat.lt_of_lt_of_le hi (by decide : 120 ≤ 120)) (by have := (by decide +kernel : ∀ i, i < 162 → kd i = 2 → 120 ≤ i) i hlt hk; omega))]
    exact h
  · rw [g_c3 hk] at h ⊢
    simp only [g_re, g_ad] at h ⊢ hf
    rw [hf 1 (by rcases hN with rfl | rfl | rfl <;> first | decide | exact absurd (Nat.lt_of_lt_of_le hi (by decide : 120 ≤ 120)) (by have := (by decide +kernel : ∀ i, i < 162 → kd i = 3 → 120 ≤ i) i hlt hk; omega)), hf 4 (by rcases hN with rfl | rfl | rfl <;> first | decide | exact absurd (Nat.lt_of_lt_of_le hi (by decide : 120 ≤ 120)) (by have := (by decide +kernel : ∀ i, i < 162 → kd i = 3 → 120 ≤ i) i hlt hk; omega)), hf 5 (by rcases hN with rfl | rfl | rfl <;> first | decide | exact absurd (Nat.lt_of_lt_of_le hi (by decide : 120 ≤ 120)) (by have := (by decide +kernel : ∀ i, i < 162 → kd i = 3 → 120 ≤ i) i hlt hk; omega)), hf 6 (by rcases hN with rfl | rfl | rfl <;> first | decide | exact absurd (Nat.lt_of_lt_of_le hi (by decide : 120 ≤ 120)) (by have := (by decide +kernel : ∀ i, i < 162 → kd i = 3 → 120 ≤ i) i hlt hk; omega)), hf 7 (by rcases hN with rfl | rfl | rfl <;> first | decide | exact absurd (Nat.lt_of_lt_of_le hi (by decide : 120 ≤ 120)) (by have := (by decide +kernel : ∀ i, i < 162 → kd i = 3 → 120 ≤ i) i hlt hk; omega))]
    exact h
  · rw [g_c4 hk] at h ⊢
    simp only [g_re, g_ad] at h ⊢ hf
    rw [hf 9 (by rcases hN with rfl | rfl | rfl <;> first | decide | exact absurd (Nat.lt_of_lt_of_le hi (by decide : 120 ≤ 120)) (by have := (by decide +kernel : ∀ i, i < 162 → kd i = 4 → 120 ≤ i) i hlt hk; omega)), hf 10 (by rcases hN with rfl | rfl | rfl <;> first | decide | exact absurd (Nat.lt_of_lt_of_le hi (by decide : 120 ≤ 120)) (by have := (by decide +kernel : ∀ i, i < 162 → kd i = 4 → 120 ≤ i) i hlt hk; omega)), hf 12 (by rcases hN with rfl | rfl | rfl <;> first | decide | exact absurd (Nat.lt_of_lt_of_le hi (by decide : 120 ≤ 120)) (by have := (by decide +kernel : ∀ i, i < 162 → kd i = 4 → 120 ≤ i) i hlt hk; omega))]
    exact h
  · rw [g_c5 hk] at h ⊢
    simp only [g_re, g_ad] at h ⊢ hf
    rw [hf (i + 1) (by have h9 := (by decide +kernel : ∀ i, i < 162 → kd i = 5 → (i < 120 → i + 1 < 120) ∧ i + 1 < 161) i hlt hk; rcases hN with rfl | rfl | rfl <;> omega)]
    exact h
  · rw [g_c6 hk] at h ⊢
    simp only [g_re, g_ad] at h ⊢ hf
    rw [hf 14 (by rcases hN with rfl | rfl | rfl <;> first | decide | exact absurd (Nat.lt_of_lt_of_le hi (by decide : 120 ≤ 120)) (by have := (by decide +kernel : ∀ i, i < 162 → kd i = 6 → 120 ≤ i) i hlt hk; omega)), hf 8 (by rcases hN with rfl | rfl | rfl <;> first | decide | exact absurd (Nat.lt_of_lt_of_le hi (by decide : 120 ≤ 120)) (by have := (by decide +kernel : ∀ i, i < 162 → kd i = 6 → 120 ≤ i) i hlt hk; omega)), hf 19 (by rcases hN with rfl | rfl | rfl <;> first | decide | exact absurd (Nat.lt_of_lt_of_le hi (by decide : 120 ≤ 120)) (by have := (by decide +kernel : ∀ i, i < 162 → kd i = 6 → 120 ≤ i) i hlt hk; omega))]
    exact h
  · rw [g_c7 hk] at h ⊢
    simp only [g_re, g_ad] at h ⊢ hf
    rw [hf (i + 1) (by have h9 := (by decide +kernel : ∀ i, i < 162 → kd i = 7 → (i < 120 → i + 1 < 120) ∧ i + 1 < 161) i hlt hk; rcases hN with rfl | rfl | rfl <;> omega), hf (i + 2) (by have h9 := (by decide +kernel : ∀ i, i < 162 → kd i = 7 → (i < 120 → i + 2 < 120) ∧ i + 2 < 161) i hlt hk; rcases hN with rfl | rfl | rfl <;> omega), hf (i + 3) (by have h9 := (by decide +kernel : ∀ i, i < 162 → kd i = 7 → (i < 120 → i + 3 < 120) ∧ i + 3 < 161) i hlt hk; rcases hN with rfl | rfl | rfl <;> omega), hf (i + 4) (by have h9 := (by decide +kernel : ∀ i, i < 162 → kd i = 7 → (i < 120 → i + 4 < 120) ∧ i + 4 < 161) i hlt hk; rcases hN with rfl | rfl | rfl <;> omega)]
    exact h
  · rw [g_c8 hk] at h ⊢; exact h
  · rw [g_c9 hk] at h ⊢
    simp only [g_re, g_ad] at h ⊢ hf
    rw [hf (i + 1) (by have h9 := (by decide +kernel : ∀ i, i < 162 → kd i = 9 → (i < 120 → i + 1 < 120) ∧ i + 1 < 161) i hlt hk; rcases hN with rfl | rfl | rfl <;> omega), hf (i + 2) (by have h9 := (by decide +kernel : ∀ i, i < 162 → kd i = 9 → (i < 120 → i + 2 < 120) ∧ i + 2 < 161) i hlt hk; rcases hN with rfl | rfl | rfl <;> omega)]
    exact h
  · rw [g_c10 hk] at h ⊢
    simp only [g_re, g_ad] at h ⊢ hf
    rw [hf (i + 1) (by have h9 := (by decide +kernel : ∀ i, i < 162 → kd i = 10 → (i < 120 → i + 1 < 120) ∧ i + 1 < 161) i hlt hk; rcases hN with rfl | rfl | rfl <;> omega)]
    exact h
  · rw [g_c12 hk] at h ⊢
    simp only [g_re, g_ad] at h ⊢ hf
    rw [hf 121 (by rcases hN with rfl | rfl | rfl <;> first | decide | exact absurd (Nat.lt_of_lt_of_le hi (by decide : 120 ≤ 120)) (by have := (by decide +kernel : ∀ i, i < 162 → kd i = 12 → 120 ≤ i) i hlt hk; omega)), hf 122 (by rcases hN with rfl | rfl | rfl <;> first | decide | exact absurd (Nat.lt_of_lt_of_le hi (by decide : 120 ≤ 120)) (by have := (by decide +kernel : ∀ i, i < 162 → kd i = 12 → 120 ≤ i) i hlt hk; omega)), hf 123 (by rcases hN with rfl | rfl | rfl <;> first | decide | exact absurd (Nat.lt_of_lt_of_le hi (by decide : 120 ≤ 120)) (by have := (by decide +kernel : ∀ i, i < 162 → kd i = 12 → 120 ≤ i) i hlt hk; omega)), hf 124 (by rcases hN with rfl | rfl | rfl <;> first | decide | exact absurd (Nat.lt_of_lt_of_le hi (by decide : 120 ≤ 120)) (by have := (by decide +kernel : ∀ i, i < 162 → kd i = 12 → 120 ≤ i) i hlt hk; omega)), hf 125 (by rcases hN with rfl | rfl | rfl <;> first | decide | exact absurd (Nat.lt_of_lt_of_le hi (by decide : 120 ≤ 120)) (by have := (by decide +kernel : ∀ i, i < 162 → kd i = 12 → 120 ≤ i) i hlt hk; omega)), hf 126 (by rcases hN with rfl | rfl | rfl <;> first | decide | exact absurd (Nat.lt_of_lt_of_le hi (by decide : 120 ≤ 120)) (by have := (by decide +kernel : ∀ i, i < 162 → kd i = 12 → 120 ≤ i) i hlt hk; omega)), hf 127 (by rcases hN with rfl | rfl | rfl <;> first | decide | exact absurd (Nat.lt_of_lt_of_le hi (by decide : 120 ≤ 120)) (by have := (by decide +kernel : ∀ i, i < 162 → kd i = 12 → 120 ≤ i) i hlt hk; omega)), hf 139 (by rcases hN with rfl | rfl | rfl <;> first | decide | exact absurd (Nat.lt_of_lt_of_le hi (by decide : 120 ≤ 120)) (by have := (by decide +kernel : ∀ i, i < 162 → kd i = 12 → 120 ≤ i) i hlt hk; omega)), hf 151 (by rcases hN with rfl | rfl | rfl <;> first | decide | exact absurd (Nat.lt_of_lt_of_le hi (by decide : 120 ≤ 120)) (by have := (by decide +kernel : ∀ i, i < 162 → kd i = 12 → 120 ≤ i) i hlt hk; omega)), hf 152 (by rcases hN with rfl | rfl | rfl <;> first | decide | exact absurd (Nat.lt_of_lt_of_le hi (by decide : 120 ≤ 120)) (by have := (by decide +kernel : ∀ i, i < 162 → kd i = 12 → 120 ≤ i) i hlt hk; omega)), hf 156 (by rcases hN with rfl | rfl | rfl <;> first | decide | exact absurd (Nat.lt_of_lt_of_le hi (by decide : 120 ≤ 120)) (by have := (by decide +kernel : ∀ i, i < 162 → kd i = 12 → 120 ≤ i) i hlt hk; omega)), hf 160 (by rcases hN with rfl | rfl | rfl <;> first | decide | exact absurd (Nat.lt_of_lt_of_le hi (by decide : 120 ≤ 120)) (by have := (by decide +kernel : ∀ i, i < 162 → kd i = 12 → 120 ≤ i) i hlt hk; omega))]
    exact h
  · rw [g_c13 hk] at h ⊢
    simp only [g_re, g_ad] at h ⊢ hf
    rw [hf (i + 1) (by have h9 := (by decide +kernel : ∀ i, i < 162 → kd i = 13 → (i < 120 → i + 1 < 120) ∧ i + 1 < 161) i hlt hk; rcases hN with rfl | rfl | rfl <;> omega), hf (i + 2) (by have h9 := (by decide +kernel : ∀ i, i < 162 → kd i = 13 → (i < 120 → i + 2 < 120) ∧ i + 2 < 161) i hlt hk; rcases hN with rfl | rfl | rfl <;> omega), hf (i + 3) (by have h9 := (by decide +kernel : ∀ i, i < 162 → kd i = 13 → (i < 120 → i + 3 < 120) ∧ i + 3 < 161) i hlt hk; rcases hN with rfl | rfl | rfl <;> omega), hf (i + 4) (by have h9 := (by decide +kernel : ∀ i, i < 162 → kd i = 13 → (i < 120 → i + 4 < 120) ∧ i + 4 < 161) i hlt hk; rcases hN with rfl | rfl | rfl <;> omega), hf (i + 5) (by have h9 := (by decide +kernel : ∀ i, i < 162 → kd i = 13 → (i < 120 → i + 5 < 120) ∧ i + 5 < 161) i hlt hk; rcases hN with rfl | rfl | rfl <;> omega), hf (i + 6) (by have h9 := (by decide +kernel : ∀ i, i < 162 → kd i = 13 → (i < 120 → i + 6 < 120) ∧ i + 6 < 161) i hlt hk; rcases hN with rfl | rfl | rfl <;> omega), hf (i + 7) (by have h9 := (by decide +kernel : ∀ i, i < 162 → kd i = 13 → (i < 120 → i + 7 < 120) ∧ i + 7 < 161) i hlt hk; rcases hN with rfl | rfl | rfl <;> omega), hf (i + 8) (by have h9 := (by decide +kernel : ∀ i, i < 162 → kd i = 13 → (i < 120 → i + 8 < 120) ∧ i + 8 < 161) i hlt hk; rcases hN with rfl | rfl | rfl <;> omega), hf (i + 9) (by have h9 := (by decide +kernel : ∀ i, i < 162 → kd i = 13 → (i < 120 → i + 9 < 120) ∧ i + 9 < 161) i hlt hk; rcases hN with rfl | rfl | rfl <;> omega), hf (i + 10) (by have h9 := (by decide +kernel : ∀ i, i < 162 → kd i = 13 → (i < 120 → i + 10 < 120) ∧ i + 10 < 161) i hlt hk; rcases hN with rfl | rfl | rfl <;> omega), hf (i + 11) (by have h9 := (by decide +kernel : ∀ i, i < 162 → kd i = 13 → (i < 120 → i + 11 < 120) ∧ i + 11 < 161) i hlt hk; rcases hN with rfl | rfl | rfl <;> omega)]
    exact h
  · rw [g_c14 hk] at h ⊢
    simp only [g_re, g_ad] at h ⊢ hf
    rw [hf (i + 1) (by have h9 := (by decide +kernel : ∀ i, i < 162 → kd i = 14 → (i < 120 → i + 1 < 120) ∧ i + 1 < 161) i hlt hk; rcases hN with rfl | rfl | rfl <;> omega), hf (i + 2) (by have h9 := (by decide +kernel : ∀ i, i < 162 → kd i = 14 → (i < 120 → i + 2 < 120) ∧ i + 2 < 161) i hlt hk; rcases hN with rfl | rfl | rfl <;> omega), hf (i + 3) (by have h9 := (by decide +kernel : ∀ i, i < 162 → kd i = 14 → (i < 120 → i + 3 < 120) ∧ i + 3 < 161) i hlt hk; rcases hN with rfl | rfl | rfl <;> omega)]
    exact h
  · rw [g_c20 hk] at h ⊢; exact h
  · rw [g_c21 hk] at h ⊢; exact h
  · rw [g_c22 hk] at h ⊢; exact h
  · rw [g_c23 hk] at h ⊢; exact h
  · rw [g_c24 hk] at h ⊢; exact h
  · rw [g_c25 hk] at h ⊢; exact h
  · rw [g_c26 hk] at h ⊢
    refine g_atqV (fun j hj => ?_) h
    have h9 := (by decide +kernel : ∀ i, i < 162 → kd i = 26 → i < 120 ∧ i + 4 + 1 * 15 < 120) i hlt hk
    simp only [g_re, g_ad] at hb ⊢
    rw [hb (i + 4 + 1 * j) (by omega)]
  · rw [g_c27 hk] at h ⊢; exact h
  · rw [g_c28 hk] at h ⊢
    refine g_atqV (fun j hj => ?_) h
    have h9 := (by decide +kernel : ∀ i, i < 162 → kd i = 28 → i < 120 ∧ i + 4 + 3 * 7 < 120) i hlt hk
    simp only [g_re, g_ad] at hb ⊢
    rw [hb (i + 4 + 3 * j) (by omega)]
  · rw [g_c30 hk] at h ⊢; exact h
  · rw [g_c31 hk] at h ⊢; exact h
  · rw [g_c32 hk] at h ⊢; exact h
  · rw [g_c33 hk] at h ⊢; exact h
  · rw [g_c34 hk] at h ⊢; exact h
  · rw [g_c35 hk] at h ⊢; exact h
  · rw [g_c36 hk] at h ⊢; exact h
  · rw [g_c37 hk] at h ⊢; exact h
  · rw [g_c38 hk] at h ⊢; exact h
theorem g_Pl {D : va_G} {cl : List vw_C} {a b : va_W} {H : Heap} (h : va_P D cl (a ++ b) H) : va_P D cl a H := fun k q hk => h k q (by rw [List.getElem?_append_left (List.getElem?_eq_some_iff.mp hk).1]; exact hk)
theorem g_Pr {D : va_G} {cl : List vw_C} {a b : va_W} {H : Heap} (h : va_P D cl (a ++ b) H) : va_P D cl b H := fun k q hk => h (a.length + k) q (by rw [List.getElem?_append_right (by omega)]; simpa using hk)
