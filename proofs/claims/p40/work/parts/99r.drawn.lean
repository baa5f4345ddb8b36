/-! a drawn language whole -/
section ZOD
variable {y z : MS} {d sb t a b : Nat}
theorem e0c : (0 : Int32).toNatClampNeg = 0 := rfl
theorem zo_at {c n k : Nat} (hk : h_K y t = 53) (hO : yO y) (hb : yb y 1) (hn : n ≤ 600) : h_rm y n = true ∧ h_K (h_new y c (fun _ => 0) (fun _ => 0) n n) t = 53 ∧ ∃ z, h_wr (h_new y c (fun _ => 0) (fun _ => 0) n n) t k (h_nx y) = z ∧ h_K z t = 53 ∧ h_I z t = h_I y t ∧ h_R z t = va_up (h_R y t) k (h_nx y) ∧ h_K z (h_nx y) = c ∧ h_N z (h_nx y) = n ∧ h_I z (h_nx y) = (fun _ => 0) ∧ yF (fun j => j = t) y z ∧ yG 1 y z ∧ h_nx z = h_nx y + 1 := by
  have tl := hO.k hk
  have o := yn_o (y := y) (c := c) (f := fun _ => 0) (r := fun _ => 0) (n := n) (sl := n) tl
  have ne : h_nx y ≠ t := by omega
  refine ⟨yn_rm (k := 1) hb (by omega) (by omega), o.1.trans hk, _, rfl, o.1.trans hk, o.2.1, ?_, ?_, ?_, ?_, fun j hj hP => ?_, ywr_G' (yn_G (by omega) (by omega)), rfl⟩
  · rw [ywr_R, o.2.2.1]
  · exact (show h_K (h_new y c (fun _ => 0) (fun _ => 0) n n) (h_nx y) = c from yn_K)
  · exact (show h_N (h_new y c (fun _ => 0) (fun _ => 0) n n) (h_nx y) = n from yn_N)
  · exact (show h_I (h_new y c (fun _ => 0) (fun _ => 0) n n) (h_nx y) = (fun _ => 0) from yn_I)
  · exact (yn_o hj).tr ⟨rfl, rfl, ywr_Rn hP, rfl⟩
theorem zo_init (hk : h_K y t = 53) (hI : h_I y t = fun _ => 0) (hO : yO y) (hb : yb y 4) : ∃ z h, f_l_X16_init t a b y = some z ∧ (h_K z t = 53 ∧ h_I z t 0 = nI 4 ∧ h_I z t 1 = nI 6 ∧ h_R z t 4 = h ∧ h_I z t 5 = 0 ∧ h_I z t 6 = 0 ∧ h_R z t 8 = a ∧ h_R z t 9 = b) ∧ (h_K z h = 60 ∧ h_N z h = 0 ∧ h_nx y ≤ h) ∧ yG 4 y z ∧ yF (fun j => j = t) y z := by
  have n0 : ¬ (0 : Int32) < 0 := by decide
  unfold f_l_X16_init
  rw [if_pos hk, e0c]
  obtain ⟨y1, hy1⟩ : ∃ y1, y1 = h_wi (h_wi y t 0 (4 : Int32)) t 1 (6 : Int32) := ⟨_, rfl⟩
  rw [← hy1]
  have k1 : h_K y1 t = 53 := by rw [hy1]; exact hk
  have i1 : h_I y1 t = upd (upd (h_I y t) 0 4) 1 6 := by rw [hy1, ywi_I, ywi_I]
  have g1 : yG 0 y y1 := by rw [hy1]; exact ywi_G' (ywi_G _ _ _ _)
  have f1 : yF (fun j => j = t) y y1 := by rw [hy1]; exact yF.tr (ywi_F (P := fun j => j = t) rfl) (ywi_F (P := fun j => j = t) rfl) (ywi_G _ _ _ _)
  have o1 := g1.2.2.2.2 hO
  have b1 : yb y1 4 := hb.g g1 (by omega)
  have tl := o1.k k1
  obtain ⟨r2, k2, y2, e2, k2', i2, R2, c2, N2, I2, f2, g2, n2⟩ := zo_at (c := 63) (n := 0) (k := 2) k1 o1 (b1.mo (by omega)) (by omega)
  rw [if_pos n0, if_pos r2, if_pos k2, if_pos n0, e2]
  have o2 := g2.2.2.2.2 o1
  have b2 : yb y2 3 := b1.g g2 (by omega)
  obtain ⟨r3, k3, y3, e3, k3', i3, R3, c3, N3, I3, f3, g3, n3⟩ := zo_at (c := 62) (n := 0) (k := 3) k2' o2 (b2.mo (by omega)) (by omega)
  rw [if_pos r3, if_pos k3, if_pos n0, e3]
  have o3 := g3.2.2.2.2 o2
  have b3 : yb y3 2 := b2.g g3 (by omega)
  obtain ⟨r4, k4, y4, e4, k4', i4, R4, c4, N4, I4, f4, g4, n4⟩ := zo_at (c := 60) (n := 0) (k := 4) k3' o3 (b3.mo (by omega)) (by omega)
  rw [if_pos r4, if_pos k4, if_pos n0, e4]
  have o4 := g4.2.2.2.2 o3
  have b4 : yb y4 1 := b3.g g4 (by omega)
  obtain ⟨r5, k5, y5, e5, k5', i5, R5, c5, N5, I5, f5, g5, n5⟩ := zo_at (c := 64) (n := 0) (k := 7) k4' o4 (b4.mo (by omega)) (by omega)
  rw [if_pos r5, if_pos k5, e5]
  obtain ⟨z, hz⟩ : ∃ z, z = h_wr (h_wr y5 t 8 a) t 9 b := ⟨_, rfl⟩
  have hIz : h_I z t = upd (upd (h_I y t) 0 4) 1 6 := by
    have : h_I z t = h_I y5 t := by rw [hz]; rfl
    rw [this, i5, i4, i3, i2, i1]
  have hRz : ∀ k, k ≠ 8 → k ≠ 9 → h_R z t k = h_R y5 t k := fun k q1 q2 => by rw [hz, ywr_R, yup2 q2, ywr_R, yup2 q1]
  have qn : h_nx y3 ≠ t := by have := g2.1; have := g3.1; omega
  have e45 := f5 (h_nx y3) (by omega) qn
  refine ⟨z, h_nx y3, by rw [hz], ⟨?_, ?_, ?_, ?_, ?_, ?_, ?_, ?_⟩, ⟨?_, ?_, ?_⟩, ?_, ?_⟩
  · rw [hz]; exact k5'
  · rw [hIz, pp_u2 (by decide), pp_u1]; rfl
  · rw [hIz, pp_u1]; rfl
  · rw [hRz 4 (by decide) (by decide), R5, yup2 (by decide), R4, yup1]
  · rw [hIz, pp_u2 (by decide), pp_u2 (by decide), hI]
  · rw [hIz, pp_u2 (by decide), pp_u2 (by decide), hI]
  · rw [hz, ywr_R, yup2 (by decide), ywr_R, yup1]
  · rw [hz, ywr_R, yup1]
  · have : h_K z (h_nx y3) = h_K y5 (h_nx y3) := by rw [hz]; rfl
    rw [this, e45.1, c4]
  · have : h_N z (h_nx y3) = h_N y5 (h_nx y3) := by rw [hz]; rfl
    rw [this, e45.2.2.2, N4]
  · have := g1.1; have := g2.1; have := g3.1; omega
  · rw [hz]
    exact ywr_G' (ywr_G' ((((g1.tr g2).tr g3).tr (g4.tr g5)).mo (by omega)))
  · have fa : yF (fun j => j = t) y y5 := (((f1.tr f2 g1).tr f3 (g1.tr g2)).tr f4 ((g1.tr g2).tr g3)).tr f5 (((g1.tr g2).tr g3).tr g4)
    have fb : yF (fun j => j = t) y5 z := by rw [hz]; exact yF.tr (ywr_F (P := fun j => j = t) rfl) (ywr_F (P := fun j => j = t) rfl) (ywr_G _ _ _ _)
    exact fa.tr fb ((((g1.tr g2).tr g3).tr g4).tr g5)
theorem zo_drawn (hS : zoS d sb [] y) (hb : yb y 1970) : ∃ W t, 0 < W ∧ W ≤ 8 ∧ zoZ d sb t W 1970 y (f_l_L_drawn d sb (1 : Int32) (4 : Int32) y) := by
  have n576 : ¬ (576 : Int32) < 0 := by decide
  have e576 : (576 : Int32).toNatClampNeg = 576 := rfl
  unfold f_l_L_drawn
  rw [e576, if_pos (yn_rm (k := 1) (hb.mo (by omega)) (by omega) (by omega)), if_pos n576]
  obtain ⟨y1, hy1⟩ : ∃ y1, y1 = h_new y 53 (fun _ => 0) (fun _ => 0) 0 10 := ⟨_, rfl⟩
  rw [← hy1]
  have hO := hS.2.2.1
  have g1 : yG 1 y y1 := by rw [hy1]; exact yn_G (by omega) (by omega)
  have f1 : yF (fun _ => False) y y1 := by rw [hy1]; exact yn_F _
  have K1 : h_K y1 (h_nx y) = 53 := by rw [hy1]; exact (show h_K (h_new y 53 (fun _ => 0) (fun _ => 0) 0 10) (h_nx y) = 53 from yn_K)
  have I1 : h_I y1 (h_nx y) = fun _ => 0 := by rw [hy1]; exact yn_I
  have N1 : h_nx y1 = h_nx y + 1 := by rw [hy1]; rfl
  have o1 := g1.2.2.2.2 hO
  have b1 : yb y1 1969 := hb.g g1 (by omega)
  rw [if_pos (yn_rm (k := 1) (b1.mo (by omega)) (by omega) (by omega)), if_pos n576]
  obtain ⟨y2, hy2⟩ : ∃ y2, y2 = h_new y1 60 (fun _ => 0) (fun _ => 0) 576 576 := ⟨_, rfl⟩
  rw [← hy2]
  have g2 : yG 1 y1 y2 := by rw [hy2]; exact yn_G (by omega) (by omega)
  have f2 : yF (fun _ => False) y1 y2 := by rw [hy2]; exact yn_F _
  have K2 : h_K y2 (h_nx y1) = 60 := by rw [hy2]; exact (show h_K (h_new y1 60 (fun _ => 0) (fun _ => 0) 576 576) (h_nx y1) = 60 from yn_K)
  have M2 : h_N y2 (h_nx y1) = 576 := by rw [hy2]; exact (show h_N (h_new y1 60 (fun _ => 0) (fun _ => 0) 576 576) (h_nx y1) = 576 from yn_N)
  have N2 : h_nx y2 = h_nx y1 + 1 := by rw [hy2]; rfl
  have o2 := g2.2.2.2.2 o1
  have b2 : yb y2 1968 := b1.g g2 (by omega)
  rw [if_pos (yn_rm (k := 1) (b2.mo (by omega)) (by omega) (by omega))]
  obtain ⟨y3, hy3⟩ : ∃ y3, y3 = h_new y2 60 (fun _ => 0) (fun _ => 0) 576 576 := ⟨_, rfl⟩
  rw [← hy3]
  have g3 : yG 1 y2 y3 := by rw [hy3]; exact yn_G (by omega) (by omega)
  have f3 : yF (fun _ => False) y2 y3 := by rw [hy3]; exact yn_F _
  have K3 : h_K y3 (h_nx y2) = 60 := by rw [hy3]; exact (show h_K (h_new y2 60 (fun _ => 0) (fun _ => 0) 576 576) (h_nx y2) = 60 from yn_K)
  have M3 : h_N y3 (h_nx y2) = 576 := by rw [hy3]; exact (show h_N (h_new y2 60 (fun _ => 0) (fun _ => 0) 576 576) (h_nx y2) = 576 from yn_N)
  have N3 : h_nx y3 = h_nx y2 + 1 := by rw [hy3]; rfl
  have o3 := g3.2.2.2.2 o2
  have b3 : yb y3 1967 := b2.g g3 (by omega)
  have F13 : yF (fun _ => False) y1 y3 := f2.tr f3 g2
  have et := F13 (h_nx y) (by omega) (fun q => q)
  have ea := f3 (h_nx y1) (by omega) (fun q => q)
  have S3 : zoS d sb [] y3 := hS.e ((g1.tr g2).tr g3) ((f1.tr F13 g1)) (((f1.tr F13 g1) d (hO.k hS.1) (fun q => q)).1.trans hS.1) (fun _ q => q.elim)
  rw [if_pos (et.1.trans K1)]
  obtain ⟨y4, ah, e4, ⟨t0, t1, t2, t3, t4, t5, t6, t7⟩, ⟨a0, a1, a2⟩, g4, f4⟩ := zo_init (a := h_nx y1) (b := h_nx y2) (et.1.trans K1) (et.2.1.trans I1) o3 (b3.mo (by omega))
  rw [e4, pp_b]
  have S4 : zoS d sb [] y4 := S3.e g4 f4 ((f4 d (o3.k S3.1) (fun q => by have := hO.k hS.1; omega)).1.trans S3.1) (fun i q => by rw [q, et.1, K1]; exact ⟨by decide, by decide⟩)
  have ec := f4 (h_nx y1) (by omega) (by omega)
  have es := f4 (h_nx y2) (by omega) (by omega)
  have b4 : yb y4 1963 := b3.g g4 (by omega)
  obtain ⟨k, y5, hk, e5, S5, g5, F5, n5⟩ := S4.di (n := 8) (by omega) (by omega)
  have e5' : f_l_X13_next d ((9 : Int32) - (1 : Int32)) y4 = some (nI k, y5) := e5
  rw [if_pos S4.1, e5', pp_b]
  have e1k : (1 : Int32) + nI k = nI (1 + k) := (nI_add (a := 1) (b := k))
  have b5 : yb y5 1963 := b4.g g5 (by omega)
  rw [e1k, if_pos (show ¬ nI (1 + k) < 0 from nI_pos (by omega)), nI_clamp (show 1 + k < 2 ^ 31 by omega)]
  have et5 := F5 (h_nx y) (by omega) (by omega) (by omega) (by omega)
  obtain ⟨r6, k6, y6, e6, k6', i6, R6, c6, M6, I6, f6, g6, n6⟩ := zo_at (c := 63) (n := 1 + k) (k := 2) (et5.1.trans t0) S5.2.2.1 (b5.mo (by omega)) (by omega)
  rw [if_pos r6, if_pos k6, if_pos (show ¬ nI (1 + k) < 0 from nI_pos (by omega)), e6]
  have o6 := g6.2.2.2.2 S5.2.2.1
  have b6 : yb y6 1962 := b5.g g6 (by omega)
  obtain ⟨r7, k7, y7, e7, k7', i7, R7, c7, M7, I7, f7, g7, n7⟩ := zo_at (c := 62) (n := 1 + k) (k := 3) k6' o6 (b6.mo (by omega)) (by omega)
  rw [if_pos r7, if_pos k7, e7]
  have hnt : ∀ i, h_nx y < i → i ≠ h_nx y := fun i hi => by omega
  have g35 := g4.tr g5
  have g57 := g6.tr g7
  have f57 : yF (fun j => j = h_nx y) y5 y7 := f6.tr f7 g6
  have n35 := g35.1
  have S7 : zoS d sb [] y7 := S5.e g57 f57 ((f57 d (S5.2.2.1.k S5.1) (fun q => by have := hO.k hS.1; omega)).1.trans S5.1) (fun i q => by rw [q, et5.1, t0]; exact ⟨by decide, by decide⟩)
  have n4 := g4.1
  have up : ∀ i, h_nx y < i → h_K y4 i = 60 → ye y4 y7 i := fun i hi hK => by
    have e := F5 i (by omega) (by omega) (by omega) (by omega)
    exact e.tr (f57 i (S5.2.2.1.lt (by rw [e.1]; omega)) (by omega))
  have uc := up (h_nx y1) (by omega) (ec.1.trans (ea.1.trans K2))
  have us := up (h_nx y2) (by omega) (es.1.trans K3)
  have uh := up ah (by omega) a0
  have ew := f7 (h_nx y5) (by omega) (by omega)
  have hI7 : h_I y7 (h_nx y) = h_I y4 (h_nx y) := by rw [i7, i6, et5.2.1]
  have hR7 : ∀ k, k ≠ 2 → k ≠ 3 → h_R y7 (h_nx y) k = h_R y4 (h_nx y) k := fun k q1 q2 => by rw [R7, yup2 q2, R6, yup2 q1, et5.2.2.1]
  have T7 : zoT (h_nx y, h_nx y5, h_nx y6, ah, 0, h_nx y1, h_nx y2) (1 + k) 4 6 0 (fun _ _ => (0, 0, 0, 0)) (fun _ => 0) y7 := by
    refine ⟨⟨k7', ?_, ?_, ?_, ?_, ?_, ?_, ?_, ?_, ?_⟩, ⟨ew.1.trans c6, ew.2.2.2.trans M6⟩, ⟨c7, M7, I7⟩, ⟨uc.1.trans (ec.1.trans (ea.1.trans K2)), uc.2.2.2.trans (ec.2.2.2.trans (ea.2.2.2.trans M2))⟩, ⟨us.1.trans (es.1.trans K3), us.2.2.2.trans (es.2.2.2.trans M3)⟩, ?_, ⟨uh.1.trans a0, uh.2.2.2.trans a1, ?_, ?_⟩, fun j hj => absurd hj (Nat.not_lt_zero _)⟩
    · show h_I y7 (h_nx y) 0 = _
      rw [hI7]; exact t1
    · show h_I y7 (h_nx y) 1 = _
      rw [hI7]; exact t2
    · show h_R y7 (h_nx y) 2 = h_nx y5
      rw [R7, yup2 (by decide), R6, yup1]
    · show h_R y7 (h_nx y) 3 = h_nx y6
      rw [R7, yup1]
    · show h_R y7 (h_nx y) 4 = ah
      rw [hR7 4 (by decide) (by decide)]; exact t3
    · show h_I y7 (h_nx y) 5 = 0
      rw [hI7]; exact t4
    · show h_I y7 (h_nx y) 6 = 0
      rw [hI7]; exact t5
    · show h_R y7 (h_nx y) 8 = h_nx y1
      rw [hR7 8 (by decide) (by decide)]; exact t6
    · show h_R y7 (h_nx y) 9 = h_nx y2
      rw [hR7 9 (by decide) (by decide)]; exact t7
    · show h_nx y1 ≠ h_nx y2
      omega
    · show ah ≠ h_nx y1
      omega
    · show ah ≠ h_nx y2
      omega
  have G : yG 9 y y7 := ((((g1.tr g2).tr g3).tr g35).tr g57).mo (by omega)
  have h53 := zo_53 (W := 1 + k) (by omega) (by omega) (1 + k) g_fuel 0 (fun _ _ => (0, 0, 0, 0)) (fun _ => 0) (fun _ => 0) y7 (by omega) (by unfold g_fuel; omega) (by omega) S7 T7 (fun j hj => absurd hj (Nat.not_lt_zero _)) (fun j hj => absurd hj (Nat.not_lt_zero _)) ((b6.g g7 (by omega)).mo (by omega))
  exact ⟨1 + k, h_nx y, by omega, by omega, h53.g G (by omega)⟩
end ZOD
