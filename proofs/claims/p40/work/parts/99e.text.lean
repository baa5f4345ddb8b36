/-! texts built by small builders -/
def zxT (u : Nat) (y : MS) (B : List Nat) (o : Option (Nat × MS)) : Prop := ∃ i y', o = some (i, y') ∧ zH y' i B ∧ yG u y y' ∧ yF (fun _ => False) y y'
def zxS (y0 : MS) (n s : Nat) (B : List Nat) (y : MS) : Prop := zB y s B ∧ yG n y0 y ∧ yF (fun _ => False) y0 y ∧ h_nx y0 ≤ s ∧ h_nx y0 ≤ h_R y s 0
theorem zxC : ∀ c, c < 93 → g_byt.getD c [] = (pp_tx c).map nI ∧ (∀ b, b ∈ pp_tx c → b < 128) ∧ (pp_tx c).length ≤ 15 := by decide +kernel
section ZX
variable {y0 y y' : MS} {s i n u c t : Nat} {B C : List Nat} {α : Type}
theorem zxH (hc : c < 93) : zH y c (pp_tx c) := by
  obtain ⟨h1, h2, h3⟩ := zxC c hc
  exact ⟨Or.inl ⟨hc, h1⟩, h2, by omega⟩
theorem zxT.m {v : Nat} {o : Option (Nat × MS)} (h : zxT u y B o) (hv : u ≤ v) : zxT v y B o := by
  obtain ⟨i, y', h1, h2, h3, h4⟩ := h
  exact ⟨i, y', h1, h2, h3.mo hv, h4⟩
theorem zxS.O (h : zxS y0 n s B y) (hO : yO y0) : yO y ∧ h_nx y0 ≤ h_nx y := ⟨h.2.1.2.2.2.2 hO, h.2.1.1⟩
theorem zxS.nd (h : zxS y0 n s B y) (hO : yO y0) (hk : h_K y0 t = 51 ∨ h_K y0 t = 52) : ye y0 y t := h.2.2.1 t (hO.lt (by omega)) (fun q => q)
theorem zx_new (hb : yb y0 2) (hO : yO y0) (hx : 200 ≤ h_nx y0) : ∃ y1, (∀ F : MS → Option α, (if h_rm y0 4 = true then (if h_K (h_new y0 54 (fun _ => 0) (fun _ => 0) 0 4) (h_nx y0) = 54 then ((f_l_J4_init_da8c8 (h_nx y0) (h_new y0 54 (fun _ => 0) (fun _ => 0) 0 4)).bind F) else none) else none) = F y1) ∧ zxS y0 2 (h_nx y0) [] y1 := by
  have g : yG 1 y0 (h_new y0 54 (fun _ => 0) (fun _ => 0) 0 4) := yn_G (by omega) (by omega)
  have hk : h_K (h_new y0 54 (fun _ => 0) (fun _ => 0) 0 4) (h_nx y0) = 54 := yn_K
  have hi : h_I (h_new y0 54 (fun _ => 0) (fun _ => 0) 0 4) (h_nx y0) 3 = 0 := by rw [yn_I]
  obtain ⟨y1, e1, e2, e3, e4, e5⟩ := zinit hk hi (hb.g g (by omega)) (g.2.2.2.2 hO) (by rw [yn_nx]; omega)
  refine ⟨y1, fun F => ?_, e2, (g.tr e3).mo (by omega), fun j hj hP => ?_, Nat.le_refl _, ?_⟩
  · rw [if_pos (yn_rm hb (by omega) (by omega)), if_pos hk, e1, pp_b]
  · exact (yn_o hj).tr (e4 j (by rw [yn_nx]; omega) (by omega))
  · rw [e5, yn_nx]; omega
theorem zxS.fr (h : zxS y0 n s B y) (hB : zB y' s C) (hG : yG u y y') (hF : zFr s y y') : zxS y0 (n + u) s C y' := by
  obtain ⟨h1, h2, h3, h4, h5⟩ := h
  refine ⟨hB, h2.tr hG, fun j hj hP => (h3 j hj hP).tr (hF.1 j (Nat.lt_of_lt_of_le hj h2.1) (fun q => by omega)), h4, ?_⟩
  rcases hF.2 with e | e
  · rw [e]; exact h5
  · have := h2.1
    omega
theorem zx_app (h : zxS y0 n s B y) (hC : zH y i C) (hL : B.length + C.length ≤ 299) (hb : yb y0 (n + 1)) (hO : yO y0) (hx : 200 ≤ h_nx y0) : ∃ y1, (∀ F : Nat × MS → Option α, (if h_K y s = 54 then ((f_l_J4_append_15ec4 s i y).bind F) else none) = F (s, y1)) ∧ zxS y0 (n + 1) s (B ++ C) y1 := by
  obtain ⟨o1, o2⟩ := h.O hO
  have hb1 : yb y 1 := (hb.g h.2.1 (by omega)).mo (by omega)
  obtain ⟨y1, e1, e2, e3, e4⟩ := zapp (L := 299) (u := 1) h.1 hC hL (by omega) (by omega) (by omega) hb1 o1 (by omega)
  exact ⟨y1, fun F => by rw [if_pos h.1.1.1, e1, pp_b], h.fr e2 e3 e4⟩
theorem zx_num {m : Nat} {v : Int32} (h : zxS y0 n s B y) (hv : v = nI m) (hm : m < 1000000) (hL : B.length ≤ 290) (hb : yb y0 (n + 1)) (hO : yO y0) (hx : 200 ≤ h_nx y0) : ∃ y1, (∀ F : Nat × MS → Option α, (if h_K y s = 54 then ((f_l_J4_append_bf812 s v y).bind F) else none) = F (s, y1)) ∧ zxS y0 (n + 1) s (B ++ zdg m) y1 := by
  obtain ⟨o1, o2⟩ := h.O hO
  have hb1 : yb y 1 := (hb.g h.2.1 (by omega)).mo (by omega)
  obtain ⟨y1, e1, e2, e3, e4⟩ := zapn (L := 299) (u := 1) h.1 hm (by omega) (by omega) (by omega) (by omega) hb1 o1 (by omega)
  exact ⟨y1, fun F => by rw [hv, if_pos h.1.1.1, e1, pp_b], h.fr e2 e3 e4⟩
theorem zx_str (h : zxS y0 n s B y) (hb : yb y0 (n + 6)) (hO : yO y0) (hx : 200 ≤ h_nx y0) : ∃ i y1, (∀ F : Nat × MS → Option α, (if h_K y s = 54 then ((f_l_J4_toString_0e30d s y).bind F) else none) = F (i, y1)) ∧ zH y1 i B ∧ yG (n + 6) y0 y1 ∧ yF (fun _ => False) y0 y1 := by
  obtain ⟨o1, o2⟩ := h.O hO
  have hb1 : yb y 6 := (hb.g h.2.1 (by omega)).mo (by omega)
  have h8 := h.1.2.1.2.2.2
  have h25 := h.1.2.2.2.2.2
  obtain ⟨i, y1, e1, e2, e3, e4, e5⟩ := ztoS (u := 5) h.1 (by omega) (by omega) (by omega) hb1 o1 (by omega)
  exact ⟨i, y1, fun F => by rw [if_pos h.1.1.1, e1, pp_b], e2, h.2.1.tr e3, h.2.2.1.tr e4 h.2.1⟩
theorem zx_txt {o : Option (Nat × MS)} (h : zxS y0 n s B y) (hO : yO y0) (hT : zxT u y C o) : ∃ i y1, (∀ F : Nat × MS → Option α, o.bind F = F (i, y1)) ∧ zH y1 i C ∧ zxS y0 (n + u) s B y1 := by
  obtain ⟨i, y1, e1, e2, e3, e4⟩ := hT
  have h54 := h.1.1.1
  have h61 := h.1.2.1.2.1
  have o1 := (h.O hO).1
  have es := e4 s (o1.k h54) (fun q => q)
  refine ⟨i, y1, fun F => by rw [e1, pp_b], e2, h.1.nn o1 e4, h.2.1.tr e3, h.2.2.1.tr e4 h.2.1, h.2.2.2.1, ?_⟩
  rw [es.2.2.1]
  exact h.2.2.2.2
end ZX
