/-! THE CLAIM OUT OF ONE WALK OF THE LAW'S BODY -/
def R_law : String := "GlideWhistlesLaw"
def lw_P (b : Addr) (xs : List Int32) (args : Array Value) (s : State) : Prop := args = #[.ref b] ∧ s.IntsAt b xs ∧ xs.length ≤ 260 ∧ (Jvm.Cond.and given_1 narrow_1).before args s = true
/-- what a walk over the start with the record d0 says of its end, said of the start itself -/
theorem lw_closed {s t : State} {o : Outcome} {d0 : Drawn} {L : List Loc} {k n : Nat} (hd0 : s.drawn.sameBut d0 lw_cs) (hv : ∃ v, o = .returned v) (hW : (s.setDrawn d0).WarmedH t.vm) (hs : (s.setDrawn d0).sameButNew ({ t with vm := s.vm } : State) L k n) : State.butDraws s t lw_cs (fun t1 => Framed s o t1 L k n) := by
  have h2 : t.drawn = d0 := congrArg State.drawn hs.1
  refine ⟨⟨hv, hW, State.sameButNew.setDrawn hs s.drawn⟩, ?_, by decide⟩
  rw [h2]
  exact hd0
def lw_Q (_ : Array Value) (s : State) (o : Outcome) (t : State) : Prop := o = .returned (some (.int 1)) ∧ State.butDraws s t lw_cs (fun t1 => Framed s o t1 [] room_1.cells room_1.slots)
def lw_Z (below : List Frame) (a : Array Value) (s : State) : State → Prop := fun t => ∃ o, t.status = .running ∧ Ended t below o ∧ lw_Q a s o t
/-- the law's own end, with 1 on the stack, in any room -/
theorem lw_retR {R : Room} {p : Program} {l : Launch} {e : Env} {s : State} {m : MethodId} {below : List Frame} {meth : Method} {c : Code} {b : Nat} {d0 : Drawn} (hd0 : s.drawn.sameBut d0 lw_cs) (hx : p.tables.exec = Jvm.exec) (hb : c.code = code) (hr : meth.sig.returnType = ret) (hlocks : meth.locks = false) {pc : Nat} {H : Heap} {ls : Array Slot} (hdg : decode code pc = .ok (.ireturn, 1)) : W p l e R (s.setDrawn d0) m #[Value.ref b] below meth c H [] room_1.cells room_1.slots (lw_Z below #[Value.ref b] s) (F0 m pc ls [.int 1]) := by
  intro T hT X
  obtain ⟨fs, hret, hrun, hended, hW, hframe⟩ := X.leave (v := some (.int 1)) (hlocks := hlocks) (fun h => by rw [hr] at h; cases h)
  have hmeth' : T.vm.method? m = some meth := X.method'
  refine ⟨T.setFrames fs, ?_, .returned (some (.int 1)), hrun, hended, rfl, lw_closed hd0 ⟨_, rfl⟩ hW hframe⟩
  jvm_step X.here [X.here.top, hx, hb, hdg, hmeth', hr, ret, narrow_b1]
  (try refine ⟨rfl, ?_⟩); (try refine ⟨rfl, ?_⟩)
  first | (intro acts; rw [hret _ acts rfl rfl rfl]) | rw [hret _ _ rfl rfl rfl]
  exact Steps.refl _
/-- what holds at the law's entry: the machine, the code, the tables' words (any of lw_tbl by 'hts w (by decide +kernel)'), the script of L ints xs at the cell b, what the Statement gives of the start (any of its parts by flat_of_before) -/
def lw_At (p : Program) (s : State) (m : MethodId) (meth : Method) (c : Code) (b L : Nat) (xs : Nat → Int32) : Prop :=
  p.tables.exec = Jvm.exec ∧ c.code = code ∧ meth.sig.returnType = ret ∧ c.maxLocals = 22 ∧ s.vm.findClass R_law = some m.cls ∧ (∀ w ∈ lw_tbl, w.before #[Value.ref b] s = true) ∧ va_X b L xs s s.heap ∧ b < s.heap.size ∧ meth.locks = false ∧ (Jvm.Cond.and given_1 narrow_1).before #[Value.ref b] s = true
abbrev gz_rawW : va_E := .inr (12, [.null, .null, .null, .null, .null, .null, .null, .null, .null, .null, .int 0])
def h_y0L : MS := (fun _ => 0, fun _ _ => 0, fun _ _ => 0, fun _ => 0, 200, 2000000, [])
/-- the law's heap behind the constructor: 120 cells of the class, nothing of the law's own -/
def h_y1 : MS := (fun _ => 0, fun _ _ => 0, fun _ _ => 0, fun _ => 0, 320, 2006525, [])
def gz_o0 : Nat → Int32 := fun _ => 0
theorem gz_okx : g_okR g_x0 := by
  refine ⟨?_, ?_, ?_, ?_⟩ <;> decide
section GZL
variable {p : Program} {l : Launch} {e : Env} {s : State} {m : MethodId} {below : List Frame} {meth : Method} {c : Code} {Q : State → Prop} {G : GL} {b : Nat} {ls : Array Slot}
set_option maxRecDepth 100000 in
set_option maxHeartbeats 4000000 in
theorem gz_A (C1 : g_X G (List.range 120) p s m #[.ref b] meth c cL_law 22 RL ret) (hkb : g_K true s) (hl : lv_has ls 22 [(0, .ref b)]) (KK : ∀ (f : Nat → Nat) (H : Heap) (locs : List Loc) (ls : Array Slot), va_P (g_D G) vwCl (g_wl (g_re G f) (List.range 120) (g_x0, h_y1, gz_o0)) H → va_D (g_A G) (g_wl (g_re G f) (List.range 120) (g_x0, h_y1, gz_o0)) → va_S (g_A G) s.heap H locs → lv_has ls 22 [(0, .ref b), (1, .ref (f 0))] → W p l e room_1 s m #[.ref b] below meth c H locs 120 6525 Q (F0 m 8 ls [])) : W p l e room_1 s m #[.ref b] below meth c s.heap [] 0 0 Q (F0 m 0 ls []) := by
  have hA : ∀ q : Nat, s.heap.size ≤ q → g_A G q := fun q h => Nat.le_trans C1.hG.2.1 h
  have hS : va_S (g_A G) s.heap s.heap [] := va_S.rf
  have hP : va_P (g_D G) vwCl [] s.heap := fun k q h => absurd h (by simp)
  have hD : va_D (g_A G) [] := ⟨fun i j p q h => absurd h (by simp), fun k q h => absurd h (by simp)⟩
  refine va_new (ci := 12) (fs := [.null, .null, .null, .null, .null, .null, .null, .null, .null, .null, .int 0]) (C := RX12) (T := TX12) (N := 11) C1.hx C1.hb C1.hts tu_X12 tyX12 tyX12_ok C1.hown (C1.hts _ tl_L_20) (C1.hts _ ta_X12) (C1.hts _ tn_X12) C1.hK hP hD hS hA rfl (fun j hj => by rcases (show j = 0 ∨ j = 1 ∨ j = 2 ∨ j = 3 ∨ j = 4 ∨ j = 5 ∨ j = 6 ∨ j = 7 ∨ j = 8 ∨ j = 9 ∨ j = 10 by omega) with rfl | rfl | rfl | rfl | rfl | rfl | rfl | rfl | rfl | rfl | rfl <;> rfl) (Nat.le_of_ble_eq_true rfl) (Nat.le_of_ble_eq_true rfl) dL_law_0 (fun q H hP hD hS => ?_)
  have hP : va_P (g_D G) vwCl ([] ++ [(q, gz_rawW)]) H := hP
  have hD : va_D (g_A G) ([] ++ [(q, gz_rawW)]) := hD
  refine lv_dup C1.hx C1.hb dL_law_3 rfl ?_
  refine g_ctorI (ws := []) (raw := gz_rawW) (As := []) (rest := [.ref q]) C1 hP hD hS hA (fun _ h => h) hkb (c_X12_init rfl) ⟨tc_X12_init, tn_X12, rfl, rfl, md_X12_init, ⟨Nat.le_of_ble_eq_true rfl, Nat.le_of_ble_eq_true rfl⟩, Nat.le_of_ble_eq_true rfl, Nat.le_of_ble_eq_true rfl⟩ tm_L_148 rfl ti_X12_init rfl hl.1 rfl (Nat.le_of_ble_eq_true rfl) dL_law_4 (fun w H locs hw hP hD hS _ => ?_)
  obtain ⟨t, a1, k, b1, b2, b3, b4, wp, d1, d2, d3, d4, d5, hr, e1, tr, f1, cr, g1, fb, fv, fc, fw, rfl⟩ := hw
  have hP : va_P (g_D G) vwCl (g_LGW G q t a1 k b1 b2 b3 b4 wp d1 d2 d3 d4 d5 hr e1 tr f1 cr g1 fb fv fc fw) H := hP
  have hD : va_D (g_A G) (g_LGW G q t a1 k b1 b2 b3 b4 wp d1 d2 d3 d4 d5 hr e1 tr f1 cr g1 fb fv fc fw) := hD
  refine W.widen (k := 120) (n := 6525) (Nat.le_of_ble_eq_true rfl) (Nat.le_of_ble_eq_true rfl) ?_
  refine lv_astore_n (lv' := [(1, .ref q), (0, .ref b)]) C1.hx C1.hb dL_law_7 rfl hl (by decide) rfl (fun ls hl => ?_)
  have hG1 := g_GWat (y := h_y1) (o := gz_o0) hP
  have hG2 := g_GWfst (G := G) (h0 := q) (t := t) (a1 := a1) (k := k) (b1 := b1) (b2 := b2) (b3 := b3) (b4 := b4) (wp := wp) (d1 := d1) (d2 := d2) (d3 := d3) (d4 := d4) (d5 := d5) (hr := hr) (e1 := e1) (tr := tr) (f1 := f1) (cr := cr) (g1 := g1) (fb := fb) (fv := fv) (fc := fc) (fw := fw)
  have h0 : g_aGW q t a1 k b1 b2 b3 b4 wp d1 d2 d3 d4 d5 hr e1 tr f1 cr g1 fb fv fc fw 0 = q := rfl
  generalize g_aGW q t a1 k b1 b2 b3 b4 wp d1 d2 d3 d4 d5 hr e1 tr f1 cr g1 fb fv fc fw = f at hG1 hG2 h0
  refine KK f H locs ls ?_ ?_ hS ?_
  · refine g_toP (G := g_re G f) (fun i hi => ?_)
    have hi2 := List.mem_range.mp hi
    rw [g_adre (G := G) (f := f) (show i < 200 by omega)]
    exact hG1 i hi2
  · have h1 := g_Dn.mp hD
    rw [hG2] at h1
    refine g_Dn.mpr ?_
    rw [g_wl_fst, show (List.range 120).map (g_ad (g_re G f)) = (List.range 120).map f from List.map_congr_left (fun i hi => g_adre (by have := List.mem_range.mp hi; omega))]
    exact h1
  · rw [h0]
    exact lv_sub hl [1, 0] rfl
end GZL
theorem gz_fl0 {l : Launch} (hflags : l.flags = flags0) : l.stackTraces = false := by
  unfold Launch.stackTraces
  rw [hflags]
  decide +kernel
theorem gz_hasRoom {s : State} {pl : Platform} {R R' : Room} (h1 : R'.frames ≤ R.frames) (h2 : R'.cells ≤ R.cells) (h3 : R'.slots ≤ R.slots) (h4 : R'.locals ≤ R.locals) (h : s.hasRoom pl R = true) : s.hasRoom pl R' = true := by
  unfold State.hasRoom at h ⊢
  simp only [Bool.and_eq_true, decide_eq_true_eq] at h ⊢
  obtain ⟨⟨⟨⟨a1, b1, b2, b3, b4, b5⟩, c1⟩, d1⟩, e1⟩ := h
  exact ⟨⟨⟨⟨by omega, by omega, by omega, by omega, by omega, b5⟩, by omega⟩, by omega⟩, e1⟩
/-- a walk in less room is a walk in more -/
theorem gz_room {p : Program} {l : Launch} {e : Env} {R R' : Room} {s : State} {m : MethodId} {args : Array Value} {below : List Frame} {meth : Method} {c : Code} {H : Heap} {locs : List Loc} {cells slots : Nat} {Q : State → Prop} {g : JFrame} (h1 : R'.frames ≤ R.frames) (h2 : R'.cells ≤ R.cells) (h3 : R'.slots ≤ R.slots) (h4 : R'.locals ≤ R.locals) (K : W p l e R' s m args below meth c H locs cells slots Q g) : W p l e R s m args below meth c H locs cells slots Q g := fun T hT X => K T hT ⟨X.admits, X.cas, X.clock, X.frames, gz_hasRoom h1 h2 h3 h4 X.room, X.hears, X.method, X.code, X.here, X.tail, X.warmed, X.limits, X.bytes, X.same⟩
theorem gz_pig : ∀ (n : Nat) (l : List Nat) (b : Nat), l.Nodup → (∀ a ∈ l, b ≤ a ∧ a < b + n) → l.length ≤ n := by
  intro n
  induction n with
  | zero =>
    intro l b _ h
    cases l with
    | nil => exact Nat.le_refl _
    | cons a l => have := h a List.mem_cons_self; omega
  | succ n ih =>
    intro l b hn h
    by_cases hm : (b + n) ∈ l
    · have h1 := ih (l.erase (b + n)) b (List.Nodup.erase _ hn) (fun a ha => by
        have h2 := (List.Nodup.mem_erase_iff hn).mp ha
        have h3 := h a h2.2
        have h4 : a ≠ b + n := h2.1
        omega)
      rw [List.length_erase_of_mem hm] at h1
      omega
    · have h1 := ih l b hn (fun a ha => by
        have h3 := h a ha
        have h4 : a ≠ b + n := fun e => hm (e ▸ ha)
        omega)
      omega
theorem gz_atlt {D : va_G} {cl : List vw_C} {q : Nat × va_E} {H : Heap} (h : va_at D cl q H) : q.1 < H.size := by
  obtain ⟨a, e⟩ := q
  cases e with
  | inl z =>
    have h : H[a]? = some (vp_cell z.1 z.2) := h
    exact (Array.getElem?_eq_some_iff.mp h).1
  | inr z =>
    obtain ⟨r, -, cell, h1, -⟩ := h
    exact (Array.getElem?_eq_some_iff.mp h1).1
/-- at pc 8 the world stands: the class's 120 cells are all that lies behind the start -/
theorem gz_W {G : GL} {f : Nat → Nat} {H0 H : Heap} {locs : List Loc} (hb : g_b G = H0.size) (hP : va_P (g_D G) vwCl (g_wl (g_re G f) (List.range 120) (g_x0, h_y1, gz_o0)) H) (hD : va_D (g_A G) (g_wl (g_re G f) (List.range 120) (g_x0, h_y1, gz_o0))) (hS : va_S (g_A G) H0 H locs) (hle : H.size ≤ H0.size + 120) : h_W (g_re G f) h_y0L (g_x0, h_y1, gz_o0) H0 H locs := by
  have hsz : H.size = H0.size + 120 := by
    have h1 := g_Dn.mp hD
    have h2 := gz_pig (H.size - H0.size) ((g_wl (g_re G f) (List.range 120) (g_x0, h_y1, gz_o0)).map Prod.fst) H0.size h1.1 (fun a ha => by
      have h3 : g_b G ≤ a := h1.2 a ha
      obtain ⟨q, hq, rfl⟩ := List.mem_map.mp ha
      obtain ⟨k, hk⟩ := List.getElem?_of_mem hq
      have h4 := gz_atlt (hP k q hk)
      omega)
    rw [List.length_map] at h2
    have h5 : (g_wl (g_re G f) (List.range 120) (g_x0, h_y1, gz_o0)).length = 120 := by
      unfold g_wl
      rw [List.length_map, List.length_range]
    rw [h5] at h2
    omega
  refine ⟨⟨hP, hD, hS⟩, ?_, ?_, ?_, ?_, ?_, ?_, ?_, ?_, ?_⟩
  · show g_b G + 320 = H.size + 200
    omega
  · show g_b G + 200 = H0.size + 200
    omega
  · show 200 ≤ 320
    omega
  · show 2000000 ≤ 2006525
    omega
  · show 320 ≤ h_cap
    decide
  · show 2006525 ≤ h_scap
    decide
  · show 200 ≤ 320
    omega
  · intro i hi
    exact absurd rfl hi
  · intro i hi
    exact absurd hi List.not_mem_nil
/-- from the entry, for a script of at most 260 ints that the pure law answers with true, the law comes to its end with true -/
theorem gz_start {p : Program} {e : Env} {s : State} {m : MethodId} {below : List Frame} {meth : Method} {c : Code} (l : Launch) (hflags : l.flags = flags0) {b L : Nat} {xs : Nat → Int32} (hL : L ≤ 260) (hpure : ∃ q, f_l_L_law L xs g_x0 h_y1 = some q ∧ q.1 = 1) (C0 : lw_At p s m meth c b L xs) : W p l e room_1 s m #[Value.ref b] below meth c s.heap [] 0 0 (lw_Z below #[Value.ref b] s) (entryFrame m ([Value.ref b] : List Value).toArray 22) := by
  obtain ⟨hx, hb, hr, hml, hown, hts, hX, hbl, hlocks, hgv⟩ := id C0
  obtain ⟨G, hbG, hGL, hGX, hGb, hG, hkb⟩ := gz_G hgv hts hL hX hbl
  obtain ⟨q, hq, hq1⟩ := hpure
  have hfl : l.stackTraces = false := gz_fl0 hflags
  have C1 : g_X G (List.range 120) p s m #[Value.ref b] meth c cL_law 22 RL ret := ⟨hx, hb, hml, hown, gz_gT hts, hlocks, hr, fun i h => List.mem_range.mpr h, hG⟩
  have hl := lv_entry ([.ref b]) (n := 22) (Nat.le_of_ble_eq_true rfl)
  rw [lg_entry_eq]
  generalize (lg_sl ([.ref b]) ++ List.replicate (22 - (lg_sl ([.ref b])).length) Slot.unset).toArray = ls at hl ⊢
  have hl : lv_has ls 22 [(0, .ref b)] := hl
  refine gz_A C1 hkb hl (fun f H locs ls hP hD hS hl => ?_)
  have C2 : g_X (g_re G f) (List.range 120) p s m #[Value.ref b] meth c cL_law 22 RL ret := ⟨hx, hb, hml, hown, gz_gT hts, hlocks, hr, fun i h => List.mem_range.mpr h, hG⟩
  refine h_size (fun hle => ?_)
  have hW := gz_W hbG hP hD hS hle
  refine gz_room (R' := h_lv 200 h_y0L) (by decide) (by decide) (by decide) (by decide) ?_
  have hL2 : g_L (g_re G f) = L := hGL
  have hX2 : g_xs (g_re G f) = xs := hGX
  have hl2 : lv_has ls 22 [(0, .ref (g_st (g_re G f) 5)), (1, .ref (g_ad (g_re G f) 0))] := by
    have e5 : g_st (g_re G f) 5 = b := hGb
    have e6 : g_ad (g_re G f) 0 = f 0 := g_adre (by omega)
    rw [e5, e6]
    exact hl
  rw [← hL2, ← hX2] at hq
  refine w_l_L_law hfl hq1 (fun x y o pc H1 locs1 ls1 hW1 hdg => ?_) C2 g_x0 h_y1 H locs ls hq hW hl2
  have hz := hW1.2.2.2.2.2
  have hc1 : h_nx y ≤ 500000 := hz.1
  have hc2 : h_sl y ≤ 7000000 := hz.2.1
  have e0 : h_nx h_y0L = 200 := rfl
  have e1 : h_sl h_y0L = 2000000 := rfl
  have r1 : 500000 ≤ room_1.cells := by decide
  have r2 : 5000000 ≤ room_1.slots := by decide
  refine W.widen (k := room_1.cells) (n := room_1.slots) (by omega) (by omega) ?_
  refine va_forget (fun q hq => ?_) ?_
  · have h : g_b G ≤ q.base := hW1.1.2.2.2.2 q hq
    rw [hbG] at h
    exact h
  · exact W.base (lw_retR (d0 := s.drawn) (Drawn.sameBut.refl s.drawn lw_cs) hx hb hr hlocks hdg)
