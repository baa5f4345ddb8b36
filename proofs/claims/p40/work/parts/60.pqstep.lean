/-! a rule and a lesson, the class's side alone: what the codes are worth, what a rule does -/
def pq_vn (A : PV) (les : Int32) (sg : Nat → Nat) (vl : Nat → Int32) : Nat → Nat → Int32
  | 0 => fun _ => 0
  | n + 1 => upd (pq_vn A les sg vl n) n (if pp_ar (sg n) = 0 then pp_lf A les (sg n) (vl n) else match pp_st sg n with
    | [] => 0
    | [a] => pp_un (sg n) (pq_vn A les sg vl n a)
    | b :: a :: _ => if pp_ar (sg n) = 1 then pp_un (sg n) (pq_vn A les sg vl n b) else pp_bi (sg n) (pq_vn A les sg vl n a) (pq_vn A les sg vl n b))
def pq_V (A : PV) (les : Int32) (sg : Nat → Nat) (vl : Nat → Int32) (p : Nat) : Int32 := pq_vn A les sg vl (p + 1) p
theorem pq_vs {A : PV} {les : Int32} {sg : Nat → Nat} {vl : Nat → Int32} {p : Nat} : ∀ n, p < n → pq_vn A les sg vl n p = pq_V A les sg vl p := by
  intro n
  induction n with
  | zero => intro h; omega
  | succ n ih =>
    intro h
    by_cases hp : p = n
    · subst hp; rfl
    · show upd _ n _ p = _
      rw [pp_u2 hp]
      exact ih (by omega)
theorem pq_Ve {A : PV} {les : Int32} {sg : Nat → Nat} {vl : Nat → Int32} (p : Nat) : pp_ev A les sg vl (pq_V A les sg vl) p := by
  have h0 : pq_V A les sg vl p = (if pp_ar (sg p) = 0 then pp_lf A les (sg p) (vl p) else match pp_st sg p with
    | [] => 0
    | [a] => pp_un (sg p) (pq_vn A les sg vl p a)
    | b :: a :: _ => if pp_ar (sg p) = 1 then pp_un (sg p) (pq_vn A les sg vl p b) else pp_bi (sg p) (pq_vn A les sg vl p a) (pq_vn A les sg vl p b)) := by
    show upd _ p _ p = _
    rw [pp_u1]
  refine ⟨fun h => by rw [h0, if_pos h], fun a S h hs => ?_, fun a b S h hs => ?_⟩
  · have ha : a < p := pp_stB sg p a (by rw [hs]; exact List.mem_cons_self)
    rw [h0, if_neg (by omega), hs]
    cases S with
    | nil => show pp_un _ _ = _; rw [pq_vs p ha]
    | cons c S => show (if pp_ar (sg p) = 1 then _ else _) = _; rw [if_pos h, pq_vs p ha]
  · have hb : b < p := pp_stB sg p b (by rw [hs]; exact List.mem_cons_self)
    have ha : a < p := pp_stB sg p a (by rw [hs]; exact List.mem_cons_of_mem _ List.mem_cons_self)
    rw [h0, if_neg (by omega), hs]
    show (if pp_ar (sg p) = 1 then _ else _) = _
    rw [if_neg (by omega), pq_vs p ha, pq_vs p hb]
/-- what a rule is: 0 prunes, 1 restores, 2 shifts; its word; its codes -/
abbrev QR : Type := Nat × Nat × Nat × Nat × Nat
def pq_do (κ w : Nat) (d : Int32) (A : PV) : Nat × PV := if κ = 2 then (pp_cg (pv_pt A w) d (pv_ln A w), pv_sp A w d) else if κ = 0 then (if pv_pr A w = 1 then 0 else 1, pv_sr A w 1) else (if pv_pr A w = 0 then 0 else 1, pv_sr A w 0)
def pq_rl (V : Nat → Int32) (ρ : QR) (A : PV) : Nat × PV := if ρ.2.2.2.1 < ρ.2.2.2.2 ∧ V (ρ.2.2.2.2 - 1) = 0 then (0, A) else pq_do ρ.1 ρ.2.1 (V (ρ.2.2.2.1 - 1)) A
def pq_fold (les : Int32) (sg : Nat → Nat) (vl : Nat → Int32) (ρs : Nat → QR) : Nat → PV → Nat × PV
  | 0, A => (0, A)
  | k + 1, A => ((pq_fold les sg vl ρs k A).1 + (pq_rl (pq_V (pq_fold les sg vl ρs k A).2 les sg vl) (ρs k) (pq_fold les sg vl ρs k A).2).1, (pq_rl (pq_V (pq_fold les sg vl ρs k A).2 les sg vl) (ρs k) (pq_fold les sg vl ρs k A).2).2)
def pq_BR (W : Nat) (x : CS) (b k : Nat) (ρ : QR) : Prop := ρ.2.1 < W ∧ ρ.2.2.1 ≤ ρ.2.2.2.1 ∧ ρ.2.2.2.1 ≤ ρ.2.2.2.2 ∧ ρ.2.2.2.2 ≤ 400 ∧ x.1 (pp_rr b k) 1 = nI ρ.2.1 ∧ x.1 (pp_rr b k) 2 = nI ρ.2.2.1 ∧ x.1 (pp_rr b k) 3 = nI ρ.2.2.2.1 ∧ x.1 (pp_rr b k) 4 = nI ρ.2.2.2.2 ∧ (ρ.2.2.2.1 < ρ.2.2.2.2 → pp_se (x.2 (b + 3)) ρ.2.2.2.1 ρ.2.2.2.2) ∧ ((ρ.1 = 2 ∧ x.2 (pp_rr b k) 0 = 11 ∧ pp_se (x.2 (b + 3)) ρ.2.2.1 ρ.2.2.2.1) ∨ (ρ.1 = 0 ∧ x.2 (pp_rr b k) 0 = 9) ∨ (ρ.1 = 1 ∧ x.2 (pp_rr b k) 0 = 10)) ∧ ∀ p, p < ρ.2.2.2.2 → x.2 (b + 3) p < 46 ∧ (pp_ar (x.2 (b + 3) p) = 0 → pp_lk W (x.2 (b + 3) p) (x.1 (b + 4) p))
def pq_BK (W g : Nat) (x : CS) (b R : Nat) (ρs : Nat → QR) : Prop := (b = 20 ∨ b = 70) ∧ R ≤ 16 ∧ x.1 b 4 = nI R ∧ x.1 b 6 = nI g ∧ ∀ k, k < R → pq_BR W x b k (ρs k)
theorem pq_rule {b k : Nat} {x : CS} (hk : k < 16) : f_X5_rule b (nI k) x = some (pp_rr b k) := by
  unfold f_X5_rule pp_rr
  rw [if_neg (nI_pos (by omega)), pp_lit 16, if_neg (nI_ge hk (by omega)), if_pos ((pp_ok (by omega)).mpr hk), nI_clamp (by omega)]
theorem pq_kd8 {b k : Nat} (hb : b = 20 ∨ b = 70) (hk : k < 16) : kd (pp_rr b k) = 8 := by
  have h1 : kd (b + 1) = 26 := by rcases hb with rfl | rfl <;> decide
  exact ke26 h1 hk
theorem pq_do1 {κ w : Nat} {d : Int32} {A : PV} : (pq_do κ w d A).1 ≤ 1 := by
  unfold pq_do
  split
  · exact pp_cgB _ _ _
  · split <;> split <;> simp
theorem pq_rl1 {V : Nat → Int32} {ρ : QR} {A : PV} : (pq_rl V ρ A).1 ≤ 1 := by
  unfold pq_rl
  split
  · simp
  · exact pq_do1
theorem pq_rl2 {V : Nat → Int32} {ρ : QR} {A : PV} (hA : pv_ok A) : pv_ok (pq_rl V ρ A).2 ∧ pv_sm A (pq_rl V ρ A).2 := by
  unfold pq_rl pq_do
  split
  · exact ⟨hA, pv_sm.rf A⟩
  · split
    · exact ⟨hA.sp, ⟨rfl, rfl, rfl, rfl, rfl⟩⟩
    · split
      · exact ⟨hA.sr (by omega), ⟨rfl, rfl, rfl, rfl, rfl⟩⟩
      · exact ⟨hA.sr (by omega), ⟨rfl, rfl, rfl, rfl, rfl⟩⟩
theorem pq_step {A : PV} {x : CS} {b v k : Nat} {les : Int32} {ρ : QR} (hA : pv_ok A) (hC : pp_VC A x v) (hb : b = 20 ∨ b = 70) (hk : k < 16) (hR : pq_BR (pv_W A) x b k ρ) (hg : x.1 b 6 = nI (pv_g A)) (hl : x.1 v 3 = les) : ∃ x' x1, pp_VC (pq_rl (pq_V A les (x.2 (b + 3)) (x.1 (b + 4))) ρ A).2 x' v ∧ pp_Fc v x x' ∧ x'.1 v = x.1 v ∧ ((f_X1_holds b v (pp_rr b k) x = some (0, x1) ∧ (pq_rl (pq_V A les (x.2 (b + 3)) (x.1 (b + 4))) ρ A).1 = 0 ∧ x' = x1) ∨ (f_X1_holds b v (pp_rr b k) x = some (1, x1) ∧ f_X1_changes b v (pp_rr b k) x1 = some (nI (pq_rl (pq_V A les (x.2 (b + 3)) (x.1 (b + 4))) ρ A).1, x'))) := by
  obtain ⟨κ, w, bg, m, e⟩ := ρ
  obtain ⟨hw, hbm, hme, he, c1, c2, c3, c4, hT, hK, hN⟩ := hR
  change w < _ at hw
  change bg ≤ m at hbm
  change m ≤ e at hme
  change e ≤ 400 at he
  change x.1 (pp_rr b k) 1 = nI w at c1
  change x.1 (pp_rr b k) 2 = nI bg at c2
  change x.1 (pp_rr b k) 3 = nI m at c3
  change x.1 (pp_rr b k) 4 = nI e at c4
  change m < e → pp_se (x.2 (b + 3)) m e at hT
  change (κ = 2 ∧ x.2 (pp_rr b k) 0 = 11 ∧ pp_se (x.2 (b + 3)) bg m) ∨ (κ = 0 ∧ x.2 (pp_rr b k) 0 = 9) ∨ (κ = 1 ∧ x.2 (pp_rr b k) 0 = 10) at hK
  change ∀ p, p < e → _ at hN
  have hv := hC.1
  have hW := hA.1
  obtain ⟨V, hV⟩ : ∃ V, V = pq_V A les (x.2 (b + 3)) (x.1 (b + 4)) := ⟨_, rfl⟩
  have hE : ∀ p, pp_ev A les (x.2 (b + 3)) (x.1 (b + 4)) V p := fun p => by rw [hV]; exact pq_Ve p
  rw [← hV]
  have hsg : ∀ p, p < e → x.2 (b + 3) p < 46 := fun p hp => (hN p hp).1
  have hlk : ∀ p, bg ≤ p → p < e → pp_ar (x.2 (b + 3) p) = 0 → pp_lk (pv_W A) (x.2 (b + 3) p) (x.1 (b + 4) p) := fun p _ hp h0 => (hN p hp).2 h0
  have hSF : ∀ {x1 x2 : CS}, pp_Sc x1 x2 → pp_Fc v x1 x2 := fun h => (pp_Fc.rf v _).sc h
  have hSv : ∀ {x1 x2 : CS}, pp_Sc x1 x2 → x2.1 v = x1.1 v := fun h => h.1 v (by omega)
  have key : ∀ x1, pp_Sc x x1 → ∃ x', pp_VC (pq_do κ w (V (m - 1)) A).2 x' v ∧ pp_Fc v x x' ∧ x'.1 v = x.1 v ∧ f_X1_changes b v (pp_rr b k) x1 = some (nI (pq_do κ w (V (m - 1)) A).1, x') := by
    intro x1 hx1
    have hC1 := hC.s hx1
    have e1 : ∀ i, 20 ≤ i → x1.1 i = x.1 i := fun i hi => hx1.1 i (by omega)
    have hrr : 20 ≤ pp_rr b k := by unfold pp_rr; omega
    unfold f_X1_changes pq_do
    rw [e1 _ hrr, c1, pp_word (by omega), pp_b, if_pos (pp_k10 hv (by omega)), hx1.2]
    rcases hK with ⟨k0, d0, hse⟩ | ⟨k0, d0⟩ | ⟨k0, d0⟩
    · subst k0
      rw [d0, if_pos rfl, if_pos rfl]
      have hme1 := hse.1
      obtain ⟨x2, hx2, hrk⟩ := pp_reckC (b := b) (V := V) hA hC1 (by omega) (show x1.1 v 3 = les by rw [hSv hx1]; exact hl) (by rw [hx1.2]; exact hse) (show m ≤ 400 by omega) (fun p hp => by rw [hx1.2]; exact hsg p (by omega)) (fun p h1 h2 h0 => by rw [hx1.2, e1 _ (by omega)] at *; exact hlk p h1 (by omega) h0) (fun p h1 h2 => by rw [hx1.2, e1 _ (by omega)]; exact hE p)
      have hC2 := hC1.s hx2
      obtain ⟨fc, t1, t2⟩ := pp_shiftC (d := V (m - 1)) (hC2.2.2.1 w hw).2.2
      rw [c2, c3, hrk, pp_b, t1, pp_b]
      have hcB := pp_cgB (pv_pt A w) (V (m - 1)) (pv_ln A w)
      have hx2' : pp_Sc x x2 := hx1.tr hx2
      have w1 : pp_wd v w + 1 + 1 = pp_wd v w + 2 := rfl
      rw [w1]
      have a1 : (g_wa x2 (pp_wd v w + 2) fc).1 (pp_wd v w) = x.1 (pp_wd v w) := (pp_c4 (by omega)).trans (hx2'.1 _ (by unfold pp_wd; omega))
      show ∃ x', _ ∧ _ ∧ _ ∧ (if nI (pp_cg (pv_pt A w) (V (m - 1)) (pv_ln A w)) = 0 then _ else _) = _
      by_cases hc : pp_cg (pv_pt A w) (V (m - 1)) (pv_ln A w) = 0
      · rw [if_pos (show nI (pp_cg (pv_pt A w) (V (m - 1)) (pv_ln A w)) = 0 by rw [hc]; rfl), if_pos (pp_01n hcB)]
        refine ⟨_, ?_, ?_, ?_, rfl⟩
        · refine pp_VC.sp (x := x) hA hC hw (fun i h1 h2 h3 => (pp_c4 h3).trans (hx2'.1 i h1)) (by rw [a1]) ?_ (fun j hj => ?_)
          · rw [a1, pv_dh0 (pp_cg0 _ hc) (hA.2.2.1 w hw)]
            exact (hC.2.2.1 w hw).2.1
          · rw [pp_c3]; exact t2 j hj
        · exact ((pp_Fc.rf v x).sc hx2').wa (by unfold pp_wd; omega) (by unfold pp_wd; omega)
        · exact (pp_c4 (by unfold pp_wd; omega)).trans (hSv hx2')
      · rw [if_neg (nI_ne0 (by omega) (by omega))]
        have hRC : pp_RC (g_wa x2 (pp_wd v w + 2) fc) (pp_wd v w + 1) (pv_pt (pv_sp A w (V (m - 1))) w) (pv_ln (pv_sp A w (V (m - 1))) w) := by
          obtain ⟨q1, q2, q3, q4⟩ := (hC2.2.2.1 w hw).2.2
          refine ⟨by rw [pp_c4 (by omega)]; exact q1, q2, fun j => ?_, fun j hj => ?_⟩
          · rw [pv_ptp, if_pos rfl]; exact pp_hdB _ _
          · rw [pv_ptp, if_pos rfl, w1, pp_c3]; exact t2 j hj
        have hH : pp_RC (g_wa x2 (pp_wd v w + 2) fc) 14 (pv_hp A) (pv_hl A) := hC2.2.2.2.e (pp_c4 (by unfold pp_wd; omega)) (pp_c4 (by unfold pp_wd; omega))
        have hg2 : (g_wa x2 (pp_wd v w + 2) fc).1 b 6 = nI (pv_g A) := by
          rw [pp_c4 (by unfold pp_wd; omega), hx2'.1 b (by omega)]; exact hg
        obtain ⟨x3, hx3, hme⟩ := pp_meas (A := pv_sp A w (V (m - 1))) hb hA.sp hv hw hRC hH hg2
        show ∃ x', _ ∧ _ ∧ _ ∧ (Option.bind (f_X1_measure b (pp_wd v w) (g_wa x2 (pp_wd v w + 2) fc)) _) = _
        rw [hme, pp_b, if_pos (pp_01n hcB)]
        have hF3 : ∀ i, (i < 9 ∨ i = 14 ∨ i = 15 ∨ 20 ≤ i) → x3.1 i = (g_wa x2 (pp_wd v w + 2) fc).1 i := hx3.1
        have hwd : 20 ≤ pp_wd v w := by unfold pp_wd; omega
        refine ⟨_, ?_, ?_, ?_, rfl⟩
        · rw [pp_c1]
          refine pp_VC.sp (x := x) hA hC hw (fun i h1 h2 h3 => ?_) ?_ ?_ (fun j hj => ?_)
          · rw [pp_c4 h2, hF3 i h1, pp_c4 h3]; exact hx2'.1 i h1
          · rw [pp_c3, pp_u2 (by omega), hF3 _ (by omega), a1]
          · rw [pp_c3, pp_u1]
          · rw [pp_c4 (by omega), hF3 _ (by omega), pp_c3]; exact t2 j hj
        · rw [pp_c1]
          exact ((((pp_Fc.rf v x).sc hx2').wa (by unfold pp_wd; omega) (by unfold pp_wd; omega)).sc hx3).wa (by unfold pp_wd; omega) (by unfold pp_wd; omega)
        · rw [pp_c1, pp_c4 (by unfold pp_wd; omega), hF3 _ (by omega), pp_c4 (by unfold pp_wd; omega)]
          exact hSv hx2'
    all_goals
      subst k0
      have hpr := hA.2.1 w
      have hC1w := (hC1.2.2.1 w hw).1
      rw [d0]
    · rw [if_neg (show ¬ (9 : Nat) = 11 by decide), if_pos rfl, if_neg (show ¬ (0 : Nat) = 2 by decide), if_pos rfl]
      unfold f_X1_changes_74
      rw [hC1w]
      refine ⟨g_wi x1 (pp_wd v w) 1 (nI 1), pp_VC.sr hA hC1 hw, ?_, ?_, ?_⟩
      · rw [pp_c1]; exact (hSF hx1).wa (by unfold pp_wd; omega) (by unfold pp_wd; omega)
      · rw [pp_c1, pp_c4 (by unfold pp_wd; omega)]; exact hSv hx1
      · by_cases h1 : pv_pr A w = 1
        · rw [h1]; rfl
        · rw [show pv_pr A w = 0 by omega]; rfl
    · rw [if_neg (show ¬ (10 : Nat) = 11 by decide), if_neg (show ¬ (10 : Nat) = 9 by decide), if_neg (show ¬ (1 : Nat) = 2 by decide), if_neg (show ¬ (1 : Nat) = 0 by decide)]
      unfold f_X1_changes_74
      rw [hC1w]
      refine ⟨g_wi x1 (pp_wd v w) 1 (nI 0), pp_VC.sr hA hC1 hw, ?_, ?_, ?_⟩
      · rw [pp_c1]; exact (hSF hx1).wa (by unfold pp_wd; omega) (by unfold pp_wd; omega)
      · rw [pp_c1, pp_c4 (by unfold pp_wd; omega)]; exact hSv hx1
      · by_cases h1 : pv_pr A w = 1
        · rw [h1]; rfl
        · rw [show pv_pr A w = 0 by omega]; rfl
  unfold f_X1_holds pq_rl
  rw [c3, c4]
  show ∃ x' x1, pp_VC (if m < e ∧ V (e - 1) = 0 then (0, A) else pq_do κ w (V (m - 1)) A).2 x' v ∧ _
  by_cases hm : m = e
  · rw [if_neg (show ¬ (m < e ∧ V (e - 1) = 0) by omega)]
    obtain ⟨x', k1, k2, k3, k4⟩ := key x (pp_Sc.rf x)
    refine ⟨x', x, k1, k2, k3, Or.inr ⟨?_, ?_⟩⟩
    · rw [if_pos (by rw [hm])]
    · exact k4
  · have hlt : m < e := by omega
    have hse := hT hlt
    obtain ⟨x1, hx1, hrk⟩ := pp_reckC (b := b) (V := V) hA hC (by omega) hl hse (by omega) hsg (fun p h1 h2 h0 => hlk p (by omega) h2 h0) (fun p h1 h2 => hE p)
    rw [if_neg (show ¬ nI m = nI e by rw [nI_eq (by omega) (by omega)]; omega), hrk, pp_b]
    by_cases hz : V (e - 1) = 0
    · rw [if_pos ⟨hlt, hz⟩]
      refine ⟨x1, x1, hC.s hx1, hSF hx1, hSv hx1, Or.inl ⟨?_, ?_, rfl⟩⟩
      · show (if V (e - 1) = 0 then _ else _) = _
        rw [if_pos hz]
      · rfl
    · rw [if_neg (fun h => hz h.2)]
      obtain ⟨x', k1, k2, k3, k4⟩ := key x1 hx1
      refine ⟨x', x1, k1, k2, k3, Or.inr ⟨?_, ?_⟩⟩
      · show (if V (e - 1) = 0 then _ else _) = _
        rw [if_neg hz]
      · exact k4
