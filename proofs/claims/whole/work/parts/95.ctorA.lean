/-! the whole reference's constructor -/
def g_mids : List Nat := (List.range 40).map (fun j => 121 + j)
/-- the two worlds in one -/
theorem g_MDat {G : GL} {f F : Nat → Nat} {H0 H : Heap} {locs : List Loc} {y : MS} {o : Nat → Int32} (hF : ∀ i, i < 120 → F i = f i) (hP : va_P (g_D G) vwCl ((F 120, g_c (g_re G F) (g_x0, y, o) 120) :: (g_wl (g_re G f) (List.range 120) (g_x0, y, o) ++ g_wl (g_re G F) g_mids (g_x0, y, o))) H) (hD : va_D (g_A G) ((F 120, g_c (g_re G F) (g_x0, y, o) 120) :: (g_wl (g_re G f) (List.range 120) (g_x0, y, o) ++ g_wl (g_re G F) g_mids (g_x0, y, o)))) (hS : va_S (g_A G) H0 H locs) : g_W (g_re G F) (List.range 161) (g_x0, y, o) H0 H locs := by
  have hx : g_okR g_x0 := by
    refine ⟨?_, ?_, ?_, ?_⟩ <;> decide
  have hP1 : va_P (g_D G) vwCl (g_wl (g_re G f) (List.range 120) (g_x0, y, o) ++ g_wl (g_re G F) g_mids (g_x0, y, o)) H := fun k q hk => hP (k + 1) q hk
  have hP2 : va_P (g_D (g_re G f)) vwCl (g_wl (g_re G f) (List.range 120) (g_x0, y, o)) H := g_Pl hP1
  have hP3 : va_P (g_D (g_re G F)) vwCl (g_wl (g_re G F) g_mids (g_x0, y, o)) H := g_Pr hP1
  refine ⟨g_toP (fun i hi => ?_), ?_, hS⟩
  · have hi := List.mem_range.mp hi
    rcases Nat.lt_trichotomy i 120 with h | h | h
    · have h1 := g_ofP (G := g_re G f) hP2 (List.mem_range.mpr h)
      exact g_reat (G := g_re G f) (f := F) (N := 120) (Or.inl rfl) hF hx h h1
    · subst h
      exact hP 0 _ rfl
    · exact g_ofP (G := g_re G F) hP3 (List.mem_map.mpr ⟨i - 121, List.mem_range.mpr (by omega), by omega⟩)
  · have h1 := g_Dn.mp hD
    rw [List.map_cons, List.map_append, g_wl_fst, g_wl_fst] at h1
    refine g_Dn.mpr ?_
    rw [g_wl_fst]
    have e0 : List.range 161 = List.range 120 ++ 120 :: g_mids := by decide
    have e1 : (List.range 120).map (g_ad (g_re G F)) = (List.range 120).map (g_ad (g_re G f)) := List.map_congr_left (fun i hi => hF i (List.mem_range.mp hi))
    rw [e0, List.map_append, List.map_cons, e1]
    obtain ⟨h2, h3⟩ := h1
    obtain ⟨h4, h5⟩ := List.pairwise_cons.mp h2
    obtain ⟨h6, h7, h8⟩ := List.pairwise_append.mp h5
    have h4 : ∀ z ∈ (List.range 120).map (g_ad (g_re G f)) ++ g_mids.map (g_ad (g_re G F)), F 120 ≠ z := fun z hz => h4 z hz
    refine ⟨List.pairwise_append.mpr ⟨h6, List.pairwise_cons.mpr ⟨fun z hz => h4 z (List.mem_append_right _ hz), h7⟩, fun a ha b hb => ?_⟩, fun a ha => ?_⟩
    · rcases List.mem_cons.mp hb with rfl | hb
      · exact fun h => h4 a (List.mem_append_left _ ha) h.symm
      · exact h8 a ha b hb
    · rcases List.mem_append.mp ha with ha | ha
      · exact h3 a (List.mem_cons_of_mem _ (List.mem_append_left _ ha))
      · rcases List.mem_cons.mp ha with rfl | ha
        · exact h3 _ List.mem_cons_self
        · exact h3 a (List.mem_cons_of_mem _ (List.mem_append_right _ ha))
/-- before the reference's constructor: its own cell, and the class's world -/
def g_PM (G : GL) (f : Nat → Nat) (h0 : Nat) (raw : va_E) (o : Nat → Int32) (U : State) : Prop := va_P (g_D G) vwCl ((h0, raw) :: g_wl (g_re G f) (List.range 120) (g_x0, g_y0, o)) U.heap ∧ va_D (g_A G) ((h0, raw) :: g_wl (g_re G f) (List.range 120) (g_x0, g_y0, o)) ∧ g_G G U
def g_QM (G : GL) (f : Nat → Nat) (y1 : MS) (o : Nat → Int32) : Array Value → State → Outcome → State → Prop := va_Qv (fun F : Nat → Nat => ∀ i, i < 120 → F i = f i) (fun F t => g_B (g_re G F) (List.range 161) (g_x0, y1, o) t) (g_A G)
theorem g_blindM {G : GL} {f : Nat → Nat} {h0 : Nat} {raw : va_E} {o : Nat → Int32} {as : List Value} : FrameBlind (va_Pc as (g_PM G f h0 raw o)) := fun a U g mk q => ⟨q.1, q.2.1, q.2.2.1, g_G_to (U := U.calling g mk a) q.2.2.2 (State.WarmedH.refl U) (Nat.le_refl _) (fun _ _ _ => rfl)⟩
theorem g_entryM {y : MethodName} {ret : Option FieldType} {rm : Room} {as : List Value} {maxL mc ms h0 : Nat} {raw : va_E} {G : GL} {f : Nat → Nat} {o : Nat → Int32} {l : Launch} {cc : ByteArray} {Qc : Array Value → State → Outcome → State → Prop} (hy : plainName y.cls = true) (hinit : y.name = "<init>") (hlen : (lg_sl as).length ≤ maxL)
    (body : ∀ (p : Program) (e : Env) (s : State) (m : MethodId) (args : Array Value) (below : List Frame) (meth : Method) (c : Code) (ls : Array Slot), g_X G (List.range 161) p s m args meth c cc maxL y.cls ret → lv_has ls maxL (lv_args 0 as) → va_P (g_D G) vwCl ((h0, raw) :: g_wl (g_re G f) (List.range 120) (g_x0, g_y0, o)) s.heap → va_D (g_A G) ((h0, raw) :: g_wl (g_re G f) (List.range 120) (g_x0, g_y0, o)) → va_S (g_A G) s.heap s.heap [] → meth.name = "<init>" → W p l e rm s m args below meth c s.heap [] 0 0 (MQ below Qc args s mc ms (g_A G)) (F0 m 0 ls [])) : Met l y (.code y cc maxL ret :: gT) rm (va_Pc as (g_PM G f h0 raw o)) Qc mc ms (g_A G) := by
  refine Met.ofW (cc := cc) (maxL := maxL) (ret := ret) hy rfl ?_
  intro p e s m args below meth c s₁ B hml hv
  obtain ⟨rfl, hP, hD, hG⟩ := hv
  have hts := atoms_spec (ws := .code y cc maxL ret :: gT) B.pre
  rw [lg_entry_eq]
  exact body p e s m _ below meth c _ ⟨B.exec, B.bytes, hml, findClass_of_methodNamed B.named, fun w h => hts w (List.mem_cons_of_mem _ h), B.notSynchronized, B.returns, fun i h => List.mem_range.mpr h, hG⟩ (lv_entry as hlen) hP hD va_S.rf ((name_of_methodNamed B.named B.method).1.trans hinit)
