/-! the pure functions, laid by program out of the bytecode (wip/whole/gen) -/
def g_min (x y : Int32) : Int32 := if y < x then y else x
theorem g_minR {p : Program} {l : Launch} {e : Env} {s : State} {m : MethodId} {args : Array Value} {below : List Frame} {meth : Method} {c : Code} {H : Heap} {locs : List Loc} {cells slots : Nat} {Q : State → Prop} {G : GL} {ids : List Nat} {cc : ByteArray} {nL pc idx k u v : Nat} {own : String} {rt : Option FieldType} {ls : Array Slot} {rest : List Value} {x y : Int32} (C0 : g_X G ids p s m args meth c cc nL own rt) (hsz : ls.size = nL) (hcat : (rest.map fun v => v.category).sum ≤ 8) (hk : 1 ≤ k) (hl : .methodLink own idx yJ9_min_7cf53 ∈ gT) (hc : cells ≤ u) (hs : slots ≤ v) (hdg : decode cc pc = .ok (.invokestatic idx, 3)) (kk : W p l e (g_rm k u v) s m args below meth c H locs cells slots Q (F0 m (pc + 3) ls (.int (g_min x y) :: rest))) : W p l e (g_rm k u v) s m args below meth c H locs cells slots Q (F0 m pc ls (.int y :: .int x :: rest)) := by
  refine va_mmin C0.hx C0.hb (C0.hml.trans hsz.symm) C0.hown (C0.hts _ hl) (C0.hts _ tz_J9_min_7cf53) (C0.hts _ tn_J9) (C0.hts _ tc_J9_min_7cf53) hk ?_ hc hs hdg kk
  show _ ≤ 64 * k
  omega
def g_max (x y : Int32) : Int32 := if x < y then y else x
theorem g_maxR {p : Program} {l : Launch} {e : Env} {s : State} {m : MethodId} {args : Array Value} {below : List Frame} {meth : Method} {c : Code} {H : Heap} {locs : List Loc} {cells slots : Nat} {Q : State → Prop} {G : GL} {ids : List Nat} {cc : ByteArray} {nL pc idx k u v : Nat} {own : String} {rt : Option FieldType} {ls : Array Slot} {rest : List Value} {x y : Int32} (C0 : g_X G ids p s m args meth c cc nL own rt) (hsz : ls.size = nL) (hcat : (rest.map fun v => v.category).sum ≤ 8) (hk : 1 ≤ k) (hl : .methodLink own idx yJ9_max_7cf53 ∈ gT) (hc : cells ≤ u) (hs : slots ≤ v) (hdg : decode cc pc = .ok (.invokestatic idx, 3)) (kk : W p l e (g_rm k u v) s m args below meth c H locs cells slots Q (F0 m (pc + 3) ls (.int (g_max x y) :: rest))) : W p l e (g_rm k u v) s m args below meth c H locs cells slots Q (F0 m pc ls (.int y :: .int x :: rest)) := by
  refine va_mmax C0.hx C0.hb (C0.hml.trans hsz.symm) C0.hown (C0.hts _ hl) (C0.hts _ tz_J9_max_7cf53) (C0.hts _ tn_J9) (C0.hts _ tc_J9_max_7cf53) hk ?_ hc hs hdg kk
  show _ ≤ 64 * k
  omega
def g_abs (x : Int32) : Int32 := if 0 ≤ x then x else 0 - x
theorem g_absR {p : Program} {l : Launch} {e : Env} {s : State} {m : MethodId} {args : Array Value} {below : List Frame} {meth : Method} {c : Code} {H : Heap} {locs : List Loc} {cells slots : Nat} {Q : State → Prop} {G : GL} {ids : List Nat} {cc : ByteArray} {nL pc idx k u v : Nat} {own : String} {rt : Option FieldType} {ls : Array Slot} {rest : List Value} {x : Int32} (C0 : g_X G ids p s m args meth c cc nL own rt) (hsz : ls.size = nL) (hcat : (rest.map fun v => v.category).sum ≤ 8) (hk : 1 ≤ k) (hl : .methodLink own idx yJ9_abs_0f7a4 ∈ gT) (hc : cells ≤ u) (hs : slots ≤ v) (hdg : decode cc pc = .ok (.invokestatic idx, 3)) (kk : W p l e (g_rm k u v) s m args below meth c H locs cells slots Q (F0 m (pc + 3) ls (.int (g_abs x) :: rest))) : W p l e (g_rm k u v) s m args below meth c H locs cells slots Q (F0 m pc ls (.int x :: rest)) := by
  refine va_mabs C0.hx C0.hb (C0.hml.trans hsz.symm) C0.hown (C0.hts _ hl) (C0.hts _ tz_J9_abs_0f7a4) (C0.hts _ tn_J9) (C0.hts _ tc_J9_abs_0f7a4) hk ?_ hc hs hdg kk
  show _ ≤ 64 * k
  omega
def g_minL (x y : Int64) : Int64 := if y < x then y else x
theorem g_minLR {p : Program} {l : Launch} {e : Env} {s : State} {m : MethodId} {args : Array Value} {below : List Frame} {meth : Method} {c : Code} {H : Heap} {locs : List Loc} {cells slots : Nat} {Q : State → Prop} {G : GL} {ids : List Nat} {cc : ByteArray} {nL pc idx k u v : Nat} {own : String} {rt : Option FieldType} {ls : Array Slot} {rest : List Value} {x y : Int64} (C0 : g_X G ids p s m args meth c cc nL own rt) (hsz : ls.size = nL) (hcat : (rest.map fun v => v.category).sum ≤ 8) (hk : 1 ≤ k) (hl : .methodLink own idx yJ9_min_f86c9 ∈ gT) (hc : cells ≤ u) (hs : slots ≤ v) (hdg : decode cc pc = .ok (.invokestatic idx, 3)) (kk : W p l e (g_rm k u v) s m args below meth c H locs cells slots Q (F0 m (pc + 3) ls (.long (g_minL x y) :: rest))) : W p l e (g_rm k u v) s m args below meth c H locs cells slots Q (F0 m pc ls (.long y :: .long x :: rest)) := by
  refine va_mmin_long C0.hx C0.hb (C0.hml.trans hsz.symm) C0.hown (C0.hts _ hl) (C0.hts _ tz_J9_min_f86c9) (C0.hts _ tn_J9) (C0.hts _ tc_J9_min_f86c9) hk ?_ hc hs hdg kk
  show _ ≤ 64 * k
  omega
def g_maxL (x y : Int64) : Int64 := if y < x then x else y
theorem g_maxLR {p : Program} {l : Launch} {e : Env} {s : State} {m : MethodId} {args : Array Value} {below : List Frame} {meth : Method} {c : Code} {H : Heap} {locs : List Loc} {cells slots : Nat} {Q : State → Prop} {G : GL} {ids : List Nat} {cc : ByteArray} {nL pc idx k u v : Nat} {own : String} {rt : Option FieldType} {ls : Array Slot} {rest : List Value} {x y : Int64} (C0 : g_X G ids p s m args meth c cc nL own rt) (hsz : ls.size = nL) (hcat : (rest.map fun v => v.category).sum ≤ 8) (hk : 1 ≤ k) (hl : .methodLink own idx yJ9_max_f86c9 ∈ gT) (hc : cells ≤ u) (hs : slots ≤ v) (hdg : decode cc pc = .ok (.invokestatic idx, 3)) (kk : W p l e (g_rm k u v) s m args below meth c H locs cells slots Q (F0 m (pc + 3) ls (.long (g_maxL x y) :: rest))) : W p l e (g_rm k u v) s m args below meth c H locs cells slots Q (F0 m pc ls (.long y :: .long x :: rest)) := by
  refine va_mmax_long C0.hx C0.hb (C0.hml.trans hsz.symm) C0.hown (C0.hts _ hl) (C0.hts _ tz_J9_max_f86c9) (C0.hts _ tn_J9) (C0.hts _ tc_J9_max_f86c9) hk ?_ hc hs hdg kk
  show _ ≤ 64 * k
  omega
def f_J0_coder_7d493 (t : Nat) : Option (Int32) :=
  if (1 : Int32) = 0 then (some ((1 : Int32))) else (if t < 72 then (some ((0 : Int32))) else none)
def f_J0_length_8abf5 (t : Nat) : Option (Int32) :=
  if t < 72 then (if t < 72 then (if t < 72 then ((f_J0_coder_7d493 t).bind fun q3 => some ((nI (g_len.getD t 0)) >>> (q3 &&& 31))) else none) else none) else none
def f_J0_isLatin1_aae02 (t : Nat) : Option (Int32) :=
  if (1 : Int32) = 0 then (some ((0 : Int32))) else (if t < 72 then (if (0 : Int32) = 0 then (some ((1 : Int32))) else (some ((0 : Int32)))) else none)
def f_J1_charAt_3b067 (p1 : Nat) (p2 : Int32) : Option (Int32) :=
  if p1 < 72 then (if ¬ p2 < 0 then (if p2 < (nI (g_len.getD p1 0)) then (if p1 < 72 then (if g_ok p2 (g_len.getD p1 0) = true then (some (((((g_byt.getD p1 []).getD p2.toNatClampNeg 0) &&& (255 : Int32)).toUInt32 % 65536).toInt32)) else none) else none) else none) else none) else none
def f_J0_charAt_5068e (t : Nat) (p1 : Int32) : Option (Int32) :=
  if t < 72 then ((f_J0_isLatin1_aae02 t).bind fun q1 => if q1 = 0 then (if t < 72 then (none) else none) else (if t < 72 then ((f_J1_charAt_3b067 t p1).bind fun q5 => if narrow .char (.int (q5)) = .int (q5) then (some (q5)) else none) else none)) else none
def f_J6_signum_0f7a4 (p1 : Int32) : Option (Int32) :=
  some ((p1 >>> ((31 : Int32) &&& 31)) ||| (((-p1).toUInt32 >>> ((31 : Int32).toUInt32 &&& Int32.toUInt32 31)).toInt32))
def f_X9_word (t : Nat) (p1 : Int32) (x : CS) : Option (Nat) :=
  if p1 < 0 then (some (t + 2)) else (if (8 : Int32) ≤ p1 then (some (t + 2)) else (if g_ok p1 8 = true then (some ((t + 1) + 4 + 3 * p1.toNatClampNeg)) else none))
def f_X9_closestKept_4 (x : CS) : Nat → Nat → Int32 → Int32 → Int32 → Option (Int32)
  | 0, _, _, _, _ => none
  | n + 1, l0, l1, l2, l3 => if (x.1 l0 2) ≤ l3 then (some (l2)) else (if l3 = l1 then (f_X9_closestKept_4 x n l0 l1 l2 (l3 + (1 : Int32))) else ((f_X9_word l0 l3 x).bind fun q3 => if kd (q3) = 10 then (if (x.1 q3 1) = 0 then (if l2 = (-1 : Int32) then (f_X9_closestKept_4 x n l0 l1 l3 (l3 + (1 : Int32))) else ((f_X9_word l0 l3 x).bind fun q7 => if kd (q7) = 10 then ((f_X9_word l0 l2 x).bind fun q9 => if kd (q9) = 10 then (if (x.1 q9 2) ≤ (x.1 q7 2) then (f_X9_closestKept_4 x n l0 l1 l2 (l3 + (1 : Int32))) else (f_X9_closestKept_4 x n l0 l1 l3 (l3 + (1 : Int32)))) else none) else none)) else (f_X9_closestKept_4 x n l0 l1 l2 (l3 + (1 : Int32)))) else none))
def f_X9_closestKept (t : Nat) (p1 : Int32) (x : CS) : Option (Int32) :=
  f_X9_closestKept_4 x g_fuel t p1 (-1 : Int32) (0 : Int32)
def f_X1_meantOf (p1 : Nat) (x : CS) : Option (Int32) :=
  if (x.1 14 1) = 0 then (some ((-1 : Int32))) else ((f_X9_closestKept p1 (-1 : Int32) x).bind fun q2 => some (q2))
def f_X3_pitch (t : Nat) (p1 : Int32) (x : CS) : Option (Int32) :=
  if p1 < 0 then (some ((0 : Int32))) else (if (24 : Int32) ≤ p1 then (some ((0 : Int32))) else (if g_ok p1 24 = true then (some (x.1 (t + 1) p1.toNatClampNeg)) else none))
def f_X10_weight_46  : Option (Int32) :=
  some (((10 : Int32) * (64 : Int32)) + (1 : Int32))
def f_X10_weight_29 (s0 : Int32) : Option (Int32) :=
  some ((s0 * (64 : Int32)) + (1 : Int32))
def f_X10_weight_14 (l0 : Int32) (l1 : Int32) (l2 : Int32) (s0 : Int32) : Option (Int32) :=
  if l2 = 0 then (if l0 = l1 then (some ((s0 * (64 : Int32)) + (1 : Int32))) else (if l0 = 0 then (f_X10_weight_46) else (if l1 = 0 then (f_X10_weight_46) else (some ((s0 * (64 : Int32)) + (1 : Int32)))))) else (if l0 = l1 then (f_X10_weight_29 (0 : Int32)) else (f_X10_weight_29 (1 : Int32)))
def f_X10_weight (p1 : Int32) (p2 : Int32) (p3 : Int32) : Option (Int32) :=
  if p2 ≤ p1 then (f_X10_weight_14 p1 p2 p3 (p1 - p2)) else (f_X10_weight_14 p1 p2 p3 (p2 - p1))
def f_X10_lightest_129 (k28 : Nat → Nat → Int32 → Int32 → Int32 → CS → Option (Int32 × CS)) (k53 : Nat → Nat → Int32 → Int32 → Int32 → Int32 → Int32 → CS → Option (Int32 × CS)) (l1 : Nat) (l2 : Nat) (l4 : Int32) (l5 : Int32) (l6 : Int32) (l8 : Int32) (l9 : Int32) (l10 : Int32) (s0 : Int32) (x : CS) : Option (Int32 × CS) :=
  if s0 = 0 then (if g_ok (l8 + (1 : Int32)) 25 = true then (k53 l1 l2 l4 l5 l6 l9 (l8 + (1 : Int32)) (g_wi x 9 (l8 + (1 : Int32)).toNatClampNeg (16777216 : Int32))) else none) else ((f_X3_pitch l1 l6 x).bind fun q14 => (f_X3_pitch l2 l8 x).bind fun q15 => (f_X10_weight q14 q15 l4).bind fun q16 => if g_ok (l8 + (1 : Int32)) 25 = true then (k53 l1 l2 l4 l5 l6 l9 (l8 + (1 : Int32)) (g_wi x 9 (l8 + (1 : Int32)).toNatClampNeg (l10 + q16))) else none)
def f_X10_lightest_128 (k28 : Nat → Nat → Int32 → Int32 → Int32 → CS → Option (Int32 × CS)) (k53 : Nat → Nat → Int32 → Int32 → Int32 → Int32 → Int32 → CS → Option (Int32 × CS)) (l1 : Nat) (l2 : Nat) (l4 : Int32) (l5 : Int32) (l6 : Int32) (l8 : Int32) (l9 : Int32) (l10 : Int32) (x : CS) : Option (Int32 × CS) :=
  f_X10_lightest_129 k28 k53 l1 l2 l4 l5 l6 l8 l9 l10 (0 : Int32) x
def f_X10_lightest_53 (k28 : Nat → Nat → Int32 → Int32 → Int32 → CS → Option (Int32 × CS)) : Nat → Nat → Nat → Int32 → Int32 → Int32 → Int32 → Int32 → CS → Option (Int32 × CS)
  | 0, _, _, _, _, _, _, _, _ => none
  | n + 1, l1, l2, l4, l5, l6, l7, l8, x => if (x.1 l2 1) ≤ l8 then (k28 l1 l2 l4 l5 (l6 + (1 : Int32)) x) else (if ((25 : Int32) - (1 : Int32)) ≤ l8 then (k28 l1 l2 l4 l5 (l6 + (1 : Int32)) x) else (if g_ok (l8 + (1 : Int32)) 25 = true then (if g_ok l8 25 = true then (if (16777216 : Int32) ≤ (g_min l7 (g_min (x.1 9 (l8 + (1 : Int32)).toNatClampNeg) (x.1 9 l8.toNatClampNeg))) then (f_X10_lightest_128 k28 (f_X10_lightest_53 k28 n) l1 l2 l4 l5 l6 l8 (x.1 9 (l8 + (1 : Int32)).toNatClampNeg) (g_min l7 (g_min (x.1 9 (l8 + (1 : Int32)).toNatClampNeg) (x.1 9 l8.toNatClampNeg))) x) else (if l5 < (g_abs (l6 - l8)) then (f_X10_lightest_128 k28 (f_X10_lightest_53 k28 n) l1 l2 l4 l5 l6 l8 (x.1 9 (l8 + (1 : Int32)).toNatClampNeg) (g_min l7 (g_min (x.1 9 (l8 + (1 : Int32)).toNatClampNeg) (x.1 9 l8.toNatClampNeg))) x) else (f_X10_lightest_129 k28 (f_X10_lightest_53 k28 n) l1 l2 l4 l5 l6 l8 (x.1 9 (l8 + (1 : Int32)).toNatClampNeg) (g_min l7 (g_min (x.1 9 (l8 + (1 : Int32)).toNatClampNeg) (x.1 9 l8.toNatClampNeg))) (1 : Int32) x))) else none) else none))
def f_X10_lightest_28  : Nat → Nat → Nat → Int32 → Int32 → Int32 → CS → Option (Int32 × CS)
  | 0, _, _, _, _, _, _ => none
  | n + 1, l1, l2, l4, l5, l6, x => if (x.1 l1 1) ≤ l6 then (if (x.1 l2 1) < 0 then (some (((16777216 : Int32), x))) else (if (25 : Int32) ≤ (x.1 l2 1) then (some (((16777216 : Int32), x))) else (if g_ok (x.1 l2 1) 25 = true then (some ((x.1 9 (x.1 l2 1).toNatClampNeg, x))) else none))) else (if l6 = 0 then (f_X10_lightest_53 (f_X10_lightest_28 n) g_fuel l1 l2 l4 l5 l6 (0 : Int32) (0 : Int32) x) else (f_X10_lightest_53 (f_X10_lightest_28 n) g_fuel l1 l2 l4 l5 l6 (16777216 : Int32) (0 : Int32) x))
def f_X10_lightest (p1 : Nat) (p2 : Nat) (p3 : Int32) (p4 : Int32) (x : CS) : Option (Int32 × CS) :=
  f_X10_lightest_28 g_fuel p1 p2 p4 (p3 + (g_abs ((x.1 p1 1) - (x.1 p2 1)))) (0 : Int32) (g_fl x 9 25 (16777216 : Int32))
def f_X10_distance (p1 : Nat) (p2 : Nat) (p3 : Int32) (x : CS) : Option (Int32 × CS) :=
  (f_X10_lightest p1 p2 p3 (0 : Int32) x).bind fun q1 => some ((q1.1 / (64 : Int32), q1.2))
def f_X1_measure (p1 : Nat) (p2 : Nat) (x : CS) : Option (CS) :=
  if (x.1 14 1) = 0 then (some (g_wi x p2 2 (999 : Int32))) else ((f_X10_distance (p2 + 1) 14 (x.1 p1 6) x).bind fun q2 => some (g_wi q2.2 p2 2 q2.1))
def f_X1_measureAll_2  : Nat → Nat → Nat → Int32 → CS → Option (CS)
  | 0, _, _, _, _ => none
  | n + 1, l1, l2, l3, x => if (x.1 l2 2) ≤ l3 then (some (x)) else ((f_X9_word l2 l3 x).bind fun q2 => if kd (q2) = 10 then ((f_X1_measure l1 q2 x).bind fun q4 => f_X1_measureAll_2 n l1 l2 (l3 + (1 : Int32)) q4) else none)
def f_X1_measureAll (p1 : Nat) (p2 : Nat) (x : CS) : Option (CS) :=
  f_X1_measureAll_2 g_fuel p1 p2 (0 : Int32) x
def f_X5_rule (t : Nat) (p1 : Int32) (x : CS) : Option (Nat) :=
  if p1 < 0 then (some (t + 2)) else (if (16 : Int32) ≤ p1 then (some (t + 2)) else (if g_ok p1 16 = true then (some ((t + 1) + 4 + 1 * p1.toNatClampNeg)) else none))
def f_X5_sign (t : Nat) (p1 : Int32) (x : CS) : Option (Nat) :=
  if p1 < 0 then (some (44)) else (if (400 : Int32) ≤ p1 then (some (44)) else (if g_ok p1 400 = true then (some (x.2 (t + 3) p1.toNatClampNeg)) else none))
def f_X1_pop (x : CS) : Option (Int32 × CS) :=
  if (x.1 18 3) < (1 : Int32) then (some (((0 : Int32), x))) else (if (x.1 18 3) ≤ (400 : Int32) then (if g_ok ((g_wi x 18 3 ((x.1 18 3) - (1 : Int32))).1 18 3) 400 = true then (some (((g_wi x 18 3 ((x.1 18 3) - (1 : Int32))).1 19 ((g_wi x 18 3 ((x.1 18 3) - (1 : Int32))).1 18 3).toNatClampNeg, g_wi x 18 3 ((x.1 18 3) - (1 : Int32))))) else none) else (some (((0 : Int32), x))))
def f_X1_push (p1 : Int32) (x : CS) : Option (CS) :=
  if (x.1 18 3) < 0 then (some (x)) else (if (400 : Int32) ≤ (x.1 18 3) then (some (x)) else (if g_ok (x.1 18 3) 400 = true then (some (g_wi (g_wi x 19 (x.1 18 3).toNatClampNeg p1) 18 3 (((g_wi x 19 (x.1 18 3).toNatClampNeg p1).1 18 3) + (1 : Int32)))) else none))
def f_X1_isJoin (p1 : Nat) (x : CS) : Option (Int32) :=
  if p1 < 46 then (if g_ok (nI p1) 46 = true then (if (g_sm.getD (nI p1).toNatClampNeg 0) = (7 : Int32) then (some ((1 : Int32))) else (if (g_sm.getD (nI p1).toNatClampNeg 0) = (8 : Int32) then (some ((1 : Int32))) else (if (g_sm.getD (nI p1).toNatClampNeg 0) = (9 : Int32) then (some ((1 : Int32))) else (if (g_sm.getD (nI p1).toNatClampNeg 0) = (10 : Int32) then (some ((1 : Int32))) else (if (g_sm.getD (nI p1).toNatClampNeg 0) = (11 : Int32) then (some ((1 : Int32))) else (if (g_sm.getD (nI p1).toNatClampNeg 0) = (12 : Int32) then (some ((1 : Int32))) else (if (g_sm.getD (nI p1).toNatClampNeg 0) = (13 : Int32) then (some ((1 : Int32))) else (if (g_sm.getD (nI p1).toNatClampNeg 0) = (14 : Int32) then (some ((1 : Int32))) else (if (g_sm.getD (nI p1).toNatClampNeg 0) = (15 : Int32) then (some ((1 : Int32))) else (if (g_sm.getD (nI p1).toNatClampNeg 0) = (16 : Int32) then (some ((1 : Int32))) else (if (g_sm.getD (nI p1).toNatClampNeg 0) = (17 : Int32) then (some ((1 : Int32))) else (if (g_sm.getD (nI p1).toNatClampNeg 0) = (18 : Int32) then (some ((1 : Int32))) else (if (g_sm.getD (nI p1).toNatClampNeg 0) = (19 : Int32) then (some ((1 : Int32))) else (some ((0 : Int32)))))))))))))))) else none) else none
def f_X12_quotient (p1 : Int32) (p2 : Int32) : Option (Int32) :=
  if p2 = 0 then (some ((0 : Int32))) else (if ¬ p2 = 0 then (some (p1 / p2)) else none)
def f_X1_compares (p1 : Nat) (p2 : Int32) (p3 : Int32) (x : CS) : Option (Int32) :=
  if p1 < 46 then (if g_ok (nI p1) 46 = true then (if (g_sm.getD (nI p1).toNatClampNeg 0) = (15 : Int32) then (if p3 ≤ p2 then (some ((0 : Int32))) else (some ((1 : Int32)))) else (if (g_sm.getD (nI p1).toNatClampNeg 0) = (16 : Int32) then (if p2 ≤ p3 then (some ((0 : Int32))) else (some ((1 : Int32)))) else (if (g_sm.getD (nI p1).toNatClampNeg 0) = (17 : Int32) then (if p2 = p3 then (some ((1 : Int32))) else (some ((0 : Int32)))) else (if (g_sm.getD (nI p1).toNatClampNeg 0) = (18 : Int32) then (if p3 < p2 then (some ((0 : Int32))) else (some ((1 : Int32)))) else (if (g_sm.getD (nI p1).toNatClampNeg 0) = (19 : Int32) then (if p2 < p3 then (some ((0 : Int32))) else (some ((1 : Int32)))) else (if p2 = p3 then (some ((1 : Int32))) else (some ((0 : Int32))))))))) else none) else none
def f_X1_join (p1 : Nat) (p2 : Int32) (p3 : Int32) (x : CS) : Option (Int32) :=
  if p1 < 46 then (if g_ok (nI p1) 46 = true then (if (g_sm.getD (nI p1).toNatClampNeg 0) = (7 : Int32) then (some (p2 &&& p3)) else (if (g_sm.getD (nI p1).toNatClampNeg 0) = (8 : Int32) then (some (p2 ||| p3)) else (if (g_sm.getD (nI p1).toNatClampNeg 0) = (9 : Int32) then (some (g_min p2 p3)) else (if (g_sm.getD (nI p1).toNatClampNeg 0) = (10 : Int32) then (some (g_max p2 p3)) else (if (g_sm.getD (nI p1).toNatClampNeg 0) = (11 : Int32) then (some (p2 + p3)) else (if (g_sm.getD (nI p1).toNatClampNeg 0) = (12 : Int32) then (some (p2 - p3)) else (if (g_sm.getD (nI p1).toNatClampNeg 0) = (13 : Int32) then (some (p2 * p3)) else (if (g_sm.getD (nI p1).toNatClampNeg 0) = (14 : Int32) then ((f_X12_quotient p2 p3).bind fun q13 => some (q13)) else ((f_X1_compares p1 p2 p3 x).bind fun q11 => if q11 = 0 then (some ((0 : Int32))) else (some ((1 : Int32)))))))))))) else none) else none
def f_X5_value (t : Nat) (p1 : Int32) (x : CS) : Option (Int32) :=
  if p1 < 0 then (some ((0 : Int32))) else (if (400 : Int32) ≤ p1 then (some ((0 : Int32))) else (if g_ok p1 400 = true then (some (x.1 (t + 4) p1.toNatClampNeg)) else none))
def f_X9_countKept_4 (x : CS) : Nat → Nat → Int32 → Int32 → Option (Int32)
  | 0, _, _, _ => none
  | n + 1, l0, l1, l2 => if (x.1 l0 2) ≤ l2 then (some (l1)) else ((f_X9_word l0 l2 x).bind fun q2 => if kd (q2) = 10 then (if (x.1 q2 1) = 0 then (f_X9_countKept_4 x n l0 (l1 + (1 : Int32)) (l2 + (1 : Int32))) else (f_X9_countKept_4 x n l0 l1 (l2 + (1 : Int32)))) else none)
def f_X9_countKept (t : Nat) (x : CS) : Option (Int32) :=
  f_X9_countKept_4 x g_fuel t (0 : Int32) (0 : Int32)
def f_X1_found (p1 : Nat) (p2 : Nat) (p3 : Int32) (x : CS) : Option (Int32) :=
  if p2 < 46 then (if g_ok (nI p2) 46 = true then (if (g_sm.getD (nI p2).toNatClampNeg 0) = (1 : Int32) then (some (x.1 p1 3)) else (if (g_sm.getD (nI p2).toNatClampNeg 0) = (2 : Int32) then ((f_X9_countKept p1 x).bind fun q18 => some (q18)) else (if (g_sm.getD (nI p2).toNatClampNeg 0) = (3 : Int32) then ((f_X9_word p1 p3 x).bind fun q16 => if kd (q16) = 10 then (some (x.1 q16 2)) else none) else (if (g_sm.getD (nI p2).toNatClampNeg 0) = (4 : Int32) then ((f_X9_word p1 p3 x).bind fun q14 => if kd (q14) = 10 then (some (x.1 (q14 + 1) 1)) else none) else (if (g_sm.getD (nI p2).toNatClampNeg 0) = (5 : Int32) then ((f_X1_meantOf p1 x).bind fun q12 => if q12 = p3 then (some ((1 : Int32))) else (some ((0 : Int32)))) else (if (g_sm.getD (nI p2).toNatClampNeg 0) = (6 : Int32) then ((f_X9_word p1 p3 x).bind fun q9 => if kd (q9) = 10 then (if (x.1 q9 1) = 0 then (some ((0 : Int32))) else (some ((1 : Int32)))) else none) else (some (p3)))))))) else none) else none
def f_X1_reckon_64 (k8 : Nat → Nat → Int32 → Int32 → CS → Option (Int32 × CS)) (l1 : Nat) (l2 : Nat) (l4 : Int32) (l5 : Int32) (s0 : Int32) (x : CS) : Option (Int32 × CS) :=
  (f_X1_push s0 x).bind fun q19 => k8 l1 l2 l4 (l5 + (1 : Int32)) q19
def f_X1_reckon_8  : Nat → Nat → Nat → Int32 → Int32 → CS → Option (Int32 × CS)
  | 0, _, _, _, _, _ => none
  | n + 1, l1, l2, l4, l5, x => if l4 ≤ l5 then ((f_X1_pop x).bind fun q2 => some ((q2.1, q2.2))) else ((f_X5_sign l1 l5 x).bind fun q3 => if q3 = 43 then ((f_X1_pop x).bind fun q17 => (f_X1_push (-q17.1) q17.2).bind fun q18 => f_X1_reckon_8 n l1 l2 l4 (l5 + (1 : Int32)) q18) else (if q3 = 21 then ((f_X1_pop x).bind fun q15 => if q15.1 = 0 then (f_X1_reckon_64 (f_X1_reckon_8 n) l1 l2 l4 l5 (1 : Int32) q15.2) else (f_X1_reckon_64 (f_X1_reckon_8 n) l1 l2 l4 l5 (0 : Int32) q15.2)) else ((f_X1_isJoin q3 x).bind fun q6 => if q6 = 0 then ((f_X5_value l1 l5 x).bind fun q8 => (f_X1_found l2 q3 q8 x).bind fun q9 => (f_X1_push q9 x).bind fun q10 => f_X1_reckon_8 n l1 l2 l4 (l5 + (1 : Int32)) q10) else ((f_X1_pop x).bind fun q11 => (f_X1_pop q11.2).bind fun q12 => (f_X1_join q3 q12.1 q11.1 q12.2).bind fun q13 => (f_X1_push q13 q12.2).bind fun q14 => f_X1_reckon_8 n l1 l2 l4 (l5 + (1 : Int32)) q14))))
def f_X1_reckon (p1 : Nat) (p2 : Nat) (p3 : Int32) (p4 : Int32) (x : CS) : Option (Int32 × CS) :=
  f_X1_reckon_8 g_fuel p1 p2 p4 p3 (g_wi x 18 3 (0 : Int32))
def f_X1_holds (p1 : Nat) (p2 : Nat) (p3 : Nat) (x : CS) : Option (Int32 × CS) :=
  if (x.1 p3 3) = (x.1 p3 4) then (some (((1 : Int32), x))) else ((f_X1_reckon p1 p2 (x.1 p3 3) (x.1 p3 4) x).bind fun q2 => if q2.1 = 0 then (some (((0 : Int32), q2.2))) else (some (((1 : Int32), q2.2))))
def f_X3_shift_75 (k4 : Nat → Int32 → Int32 → Int32 → CS → Option (Int32 × CS)) (l0 : Nat) (l1 : Int32) (l2 : Int32) (l3 : Int32) (l4 : Int32) (s0 : Int32) (s1 : Int32) (s2 : Nat) (x : CS) : Option (Int32 × CS) :=
  if g_ok s1 24 = true then (if l2 = 0 then (if g_ok l3 24 = true then (if ((g_wi x s2 s1.toNatClampNeg s0).1 (l0 + 1) l3.toNatClampNeg) = l4 then (k4 l0 l1 (0 : Int32) (l3 + (1 : Int32)) (g_wi x s2 s1.toNatClampNeg s0)) else (k4 l0 l1 (1 : Int32) (l3 + (1 : Int32)) (g_wi x s2 s1.toNatClampNeg s0))) else none) else (k4 l0 l1 (1 : Int32) (l3 + (1 : Int32)) (g_wi x s2 s1.toNatClampNeg s0))) else none
def f_X3_shift_4  : Nat → Nat → Int32 → Int32 → Int32 → CS → Option (Int32 × CS)
  | 0, _, _, _, _, _ => none
  | n + 1, l0, l1, l2, l3, x => if (24 : Int32) ≤ l3 then (if l2 = 0 ∨ l2 = 1 then (some ((l2, x))) else none) else (if (x.1 l0 1) ≤ l3 then (if l2 = 0 ∨ l2 = 1 then (some ((l2, x))) else none) else (if g_ok l3 24 = true then (if (x.1 (l0 + 1) l3.toNatClampNeg) = 0 then (f_X3_shift_4 n l0 l1 l2 (l3 + (1 : Int32)) x) else (if 0 ≤ (lg_cmp (((x.1 (l0 + 1) l3.toNatClampNeg).toInt64) + l1.toInt64) (1 : Int64)) then (if (lg_cmp (((x.1 (l0 + 1) l3.toNatClampNeg).toInt64) + l1.toInt64) (40 : Int64)) ≤ 0 then (f_X3_shift_75 (f_X3_shift_4 n) l0 l1 l2 l3 (x.1 (l0 + 1) l3.toNatClampNeg) ((((x.1 (l0 + 1) l3.toNatClampNeg).toInt64) + l1.toInt64).toInt32) l3 (l0 + 1) x) else (f_X3_shift_75 (f_X3_shift_4 n) l0 l1 l2 l3 (x.1 (l0 + 1) l3.toNatClampNeg) (40 : Int32) l3 (l0 + 1) x)) else (f_X3_shift_75 (f_X3_shift_4 n) l0 l1 l2 l3 (x.1 (l0 + 1) l3.toNatClampNeg) (1 : Int32) l3 (l0 + 1) x))) else none))
def f_X3_shift (t : Nat) (p1 : Int32) (x : CS) : Option (Int32 × CS) :=
  f_X3_shift_4 g_fuel t p1 (0 : Int32) (0 : Int32) x
def f_X1_changes_74 (l4 : Nat) (s0 : Int32) (x : CS) : Option (Int32 × CS) :=
  if (x.1 l4 1) = s0 then (if s0 = 0 ∨ s0 = 1 then (some (((0 : Int32), g_wi x l4 1 s0))) else none) else (if s0 = 0 ∨ s0 = 1 then (some (((1 : Int32), g_wi x l4 1 s0))) else none)
def f_X1_changes (p1 : Nat) (p2 : Nat) (p3 : Nat) (x : CS) : Option (Int32 × CS) :=
  (f_X9_word p2 (x.1 p3 1) x).bind fun q1 => if kd (q1) = 10 then (if (x.2 p3 0) = 11 then ((f_X1_reckon p1 p2 (x.1 p3 2) (x.1 p3 3) x).bind fun q5 => (f_X3_shift (q1 + 1) q5.1 q5.2).bind fun q6 => if q6.1 = 0 then (if q6.1 = 0 ∨ q6.1 = 1 then (some ((q6.1, q6.2))) else none) else ((f_X1_measure p1 q1 q6.2).bind fun q9 => if q6.1 = 0 ∨ q6.1 = 1 then (some ((q6.1, q9))) else none)) else (if (x.2 p3 0) = 9 then (f_X1_changes_74 q1 (1 : Int32) x) else (f_X1_changes_74 q1 (0 : Int32) x))) else none
def f_X1_passOne_5  : Nat → Nat → Nat → Int32 → Int32 → CS → Option (Int32 × CS)
  | 0, _, _, _, _, _ => none
  | n + 1, l1, l2, l3, l4, x => if (x.1 l1 4) ≤ l4 then (some ((l3, g_wi (g_wi x l2 3 ((x.1 l2 3) + (1 : Int32))) l2 4 (((g_wi x l2 3 ((x.1 l2 3) + (1 : Int32))).1 l2 4) + l3)))) else ((f_X5_rule l1 l4 x).bind fun q2 => if kd (q2) = 8 then ((f_X1_holds l1 l2 q2 x).bind fun q4 => if q4.1 = 0 then (f_X1_passOne_5 n l1 l2 l3 (l4 + (1 : Int32)) q4.2) else ((f_X1_changes l1 l2 q2 q4.2).bind fun q6 => if q6.1 = 0 then (f_X1_passOne_5 n l1 l2 l3 (l4 + (1 : Int32)) q6.2) else (f_X1_passOne_5 n l1 l2 (l3 + (1 : Int32)) (l4 + (1 : Int32)) q6.2))) else none)
def f_X1_passOne (p1 : Nat) (p2 : Nat) (x : CS) : Option (Int32 × CS) :=
  f_X1_passOne_5 g_fuel p1 p2 (0 : Int32) (0 : Int32) x
def f_X5_clear (t : Nat) (x : CS) : Option (CS) :=
  some (g_wi (g_wi (g_wi (g_wi x t 4 (0 : Int32)) t 5 (0 : Int32)) t 6 (4 : Int32)) t 7 (6 : Int32))
def f_X9_clear (t : Nat) (x : CS) : Option (CS) :=
  some (g_wi (g_wi (g_wi x t 2 (0 : Int32)) t 3 (0 : Int32)) t 4 (0 : Int32))
def f_X8_sign (p1 : Int32) (x : CS) : Option (Nat) :=
  if p1 < 0 then (some (45)) else (if (401 : Int32) ≤ p1 then (some (45)) else (if g_ok p1 401 = true then (some (x.2 4 p1.toNatClampNeg)) else none))
def f_X8_place (p1 : Int32) (x : CS) : Option (Int32) :=
  if p1 < 0 then (some ((0 : Int32))) else (if (401 : Int32) ≤ p1 then (some ((0 : Int32))) else (if g_ok p1 401 = true then (some (x.1 5 p1.toNatClampNeg)) else none))
def f_X8_value (p1 : Int32) (x : CS) : Option (Int32) :=
  if p1 < 0 then (some ((0 : Int32))) else (if (401 : Int32) ≤ p1 then (some ((0 : Int32))) else (if g_ok p1 401 = true then (some (x.1 7 p1.toNatClampNeg)) else none))
def f_X2_step (x : CS) : Option (CS) :=
  if (x.1 162 8) = (1 : Int32) then (some (x)) else ((f_X8_sign ((g_wi x 162 4 ((x.1 162 4) + (1 : Int32))).1 162 4) (g_wi x 162 4 ((x.1 162 4) + (1 : Int32)))).bind fun q2 => (f_X8_place ((g_wr (g_wi x 162 4 ((x.1 162 4) + (1 : Int32))) 162 5 q2).1 162 4) (g_wr (g_wi x 162 4 ((x.1 162 4) + (1 : Int32))) 162 5 q2)).bind fun q3 => (f_X8_value ((g_wi (g_wr (g_wi x 162 4 ((x.1 162 4) + (1 : Int32))) 162 5 q2) 162 6 q3).1 162 4) (g_wi (g_wr (g_wi x 162 4 ((x.1 162 4) + (1 : Int32))) 162 5 q2) 162 6 q3)).bind fun q4 => some (g_wi (g_wi (g_wr (g_wi x 162 4 ((x.1 162 4) + (1 : Int32))) 162 5 q2) 162 6 q3) 162 7 q4))
def f_X2_refuse (x : CS) : Option (CS) :=
  if (x.1 162 8) = (1 : Int32) then (some (x)) else (some (g_wr (g_wi (g_wi x 162 8 (1 : Int32)) 162 9 ((g_wi x 162 8 (1 : Int32)).1 162 6)) 162 5 45))
def f_X2_wordCalled_2 (x : CS) : Nat → Int32 → Int32 → Option (Int32)
  | 0, _, _ => none
  | n + 1, l1, l2 => if kd (x.2 162 2) = 9 then (if (x.1 (x.2 162 2) 2) ≤ l2 then (some ((-1 : Int32))) else (if (8 : Int32) ≤ l2 then (some ((-1 : Int32))) else (if g_ok l2 8 = true then (if (x.1 163 l2.toNatClampNeg) = l1 then (some (l2)) else (f_X2_wordCalled_2 x n l1 (l2 + (1 : Int32)))) else none))) else none
def f_X2_wordCalled (p1 : Int32) (x : CS) : Option (Int32) :=
  f_X2_wordCalled_2 x g_fuel p1 (0 : Int32)
def f_X2_blame (p1 : Int32) (x : CS) : Option (CS) :=
  if (x.1 162 8) = 0 then (some (g_wi (g_wi x 162 8 p1) 162 9 ((g_wi x 162 8 p1).1 162 6))) else (some (x))
def f_X9_addWord (t : Nat) (x : CS) : Option (CS) :=
  if (8 : Int32) ≤ (x.1 t 2) then (some (x)) else ((f_X9_word t (x.1 t 2) x).bind fun q2 => if kd (q2) = 10 then (some (g_wi (g_wi (g_wi (g_wi x (q2 + 1) 1 (0 : Int32)) q2 1 (0 : Int32)) q2 2 (999 : Int32)) t 2 (((g_wi (g_wi (g_wi x (q2 + 1) 1 (0 : Int32)) q2 1 (0 : Int32)) q2 2 (999 : Int32)).1 t 2) + (1 : Int32)))) else none)
def f_X2_readNewName_90 (x : CS) : Option (CS) :=
  (f_X2_step x).bind fun q13 => some (q13)
def f_X2_readNewName_32 (x : CS) : Option (CS) :=
  if kd (x.2 162 2) = 9 then (if (x.1 (x.2 162 2) 2) < (8 : Int32) then (if (8 : Int32) ≤ (x.1 (x.2 162 2) 2) then (f_X2_readNewName_90 x) else (if g_ok (x.1 (x.2 162 2) 2) 8 = true then (if kd ((g_wi x 163 (x.1 (x.2 162 2) 2).toNatClampNeg (x.1 162 7)).2 162 2) = 9 then ((f_X9_addWord ((g_wi x 163 (x.1 (x.2 162 2) 2).toNatClampNeg (x.1 162 7)).2 162 2) (g_wi x 163 (x.1 (x.2 162 2) 2).toNatClampNeg (x.1 162 7))).bind fun q11 => f_X2_readNewName_90 q11) else none) else none)) else ((f_X2_blame (4 : Int32) x).bind fun q12 => f_X2_readNewName_90 q12)) else none
def f_X2_readNewName (x : CS) : Option (CS) :=
  if (x.2 162 5) = 41 then ((f_X2_wordCalled (x.1 162 7) x).bind fun q2 => if q2 = (-1 : Int32) then (f_X2_readNewName_32 x) else ((f_X2_blame (2 : Int32) x).bind fun q4 => f_X2_readNewName_32 q4)) else ((f_X2_refuse x).bind fun q5 => some (q5))
def f_X2_expect (p1 : Nat) (x : CS) : Option (CS) :=
  if (x.2 162 5) = p1 then ((f_X2_step x).bind fun q3 => some (q3)) else ((f_X2_refuse x).bind fun q2 => some (q2))
def f_X2_readNumber_36 (l3 : Int32) (x : CS) : Option (Int32 × CS) :=
  (f_X2_step x).bind fun q6 => some ((l3, q6))
def f_X2_readNumber_31 (l3 : Int32) (x : CS) : Option (Int32 × CS) :=
  (f_X2_blame (5 : Int32) x).bind fun q5 => f_X2_readNumber_36 l3 q5
def f_X2_readNumber (p1 : Int32) (p2 : Int32) (x : CS) : Option (Int32 × CS) :=
  if (x.2 162 5) = 42 then (if (x.1 162 7) < p1 then (f_X2_readNumber_31 (x.1 162 7) x) else (if (x.1 162 7) ≤ p2 then (f_X2_readNumber_36 (x.1 162 7) x) else (f_X2_readNumber_31 (x.1 162 7) x))) else ((f_X2_refuse x).bind fun q4 => some (((0 : Int32), q4)))
def f_X3_add (t : Nat) (p1 : Int32) (x : CS) : Option (CS) :=
  if (x.1 t 1) < 0 then (some (x)) else (if (24 : Int32) ≤ (x.1 t 1) then (some (x)) else (if g_ok (x.1 t 1) 24 = true then (some (g_wi (g_wi x (t + 1) (x.1 t 1).toNatClampNeg p1) t 1 (((g_wi x (t + 1) (x.1 t 1).toNatClampNeg p1).1 t 1) + (1 : Int32)))) else none))
def f_X3_addGlide_3  : Nat → Nat → Int32 → Int32 → Int32 → Int32 → CS → Option (CS)
  | 0, _, _, _, _, _, _ => none
  | n + 1, l0, l1, l2, l3, l4, x => if l3 ≤ l4 then (some (x)) else (if (9 : Int32) ≤ l4 then (some (x)) else ((f_X12_quotient ((l2 - l1) * l4) l3).bind fun q3 => (f_X3_add l0 (l1 + q3) x).bind fun q4 => f_X3_addGlide_3 n l0 l1 l2 l3 (l4 + (1 : Int32)) q4))
def f_X3_addGlide (t : Nat) (p1 : Int32) (p2 : Int32) (p3 : Int32) (x : CS) : Option (CS) :=
  f_X3_addGlide_3 g_fuel t p1 p2 p3 (0 : Int32) x
def f_X2_readPart_98 (l1 : Nat) (l2 : Int32) (l3 : Int32) (x : CS) : Option (CS) :=
  (f_X2_expect 3 x).bind fun q13 => (f_X2_readNumber (1 : Int32) (g_min (9 : Int32) ((24 : Int32) - (q13.1 l1 1))) q13).bind fun q14 => (f_X3_addGlide l1 l2 l3 q14.1 q14.2).bind fun q15 => some (q15)
def f_X2_readPart (x : CS) : Option (CS) :=
  if kd (x.2 162 2) = 9 then ((f_X9_word (x.2 162 2) ((x.1 (x.2 162 2) 2) - (1 : Int32)) x).bind fun q2 => if kd (q2) = 10 then (if (x.2 162 5) = 2 then ((f_X2_step x).bind fun q11 => (f_X2_readNumber (1 : Int32) (40 : Int32) q11).bind fun q12 => f_X2_readPart_98 (q2 + 1) q12.1 q12.1 q12.2) else (if (x.2 162 5) = 4 then ((f_X2_step x).bind fun q7 => (f_X2_readNumber (1 : Int32) (40 : Int32) q7).bind fun q8 => (f_X2_expect 5 q8.2).bind fun q9 => (f_X2_readNumber (1 : Int32) (40 : Int32) q9).bind fun q10 => f_X2_readPart_98 (q2 + 1) q8.1 q10.1 q10.2) else ((f_X2_expect 6 x).bind fun q6 => f_X2_readPart_98 (q2 + 1) (0 : Int32) (0 : Int32) q6))) else none) else none
def f_X2_readWord_21  : Nat → Int32 → CS → Option (CS)
  | 0, _, _ => none
  | n + 1, l1, x => if (400 : Int32) ≤ l1 then (some (x)) else (if (x.2 162 5) = 31 then ((f_X2_step x).bind fun q7 => (f_X2_readPart q7).bind fun q8 => f_X2_readWord_21 n (l1 + (1 : Int32)) q8) else (some (x)))
def f_X2_readWord (x : CS) : Option (CS) :=
  (f_X2_step x).bind fun q1 => (f_X2_readNewName q1).bind fun q2 => (f_X2_expect 1 q2).bind fun q3 => (f_X2_readPart q3).bind fun q4 => f_X2_readWord_21 g_fuel (0 : Int32) q4
def f_X2_readKnownName_35 (l1 : Int32) (x : CS) : Option (Int32 × CS) :=
  (f_X2_step x).bind fun q6 => some ((l1, q6))
def f_X2_readKnownName (x : CS) : Option (Int32 × CS) :=
  if (x.2 162 5) = 41 then ((f_X2_wordCalled (x.1 162 7) x).bind fun q2 => if q2 = (-1 : Int32) then ((f_X2_blame (3 : Int32) x).bind fun q4 => f_X2_readKnownName_35 q2 q4) else (f_X2_readKnownName_35 q2 x)) else ((f_X2_refuse x).bind fun q5 => some (((-1 : Int32), q5)))
def f_X5_addSign (t : Nat) (p1 : Nat) (p2 : Int32) (x : CS) : Option (CS) :=
  if (x.1 t 5) < 0 then (some (x)) else (if (400 : Int32) ≤ (x.1 t 5) then (some (x)) else (if (400 : Int32) ≤ (x.1 t 5) then (some (x)) else (if g_ok (x.1 t 5) 400 = true then (if p1 < 46 then (if g_ok ((g_wr x (t + 3) (x.1 t 5).toNatClampNeg p1).1 t 5) 400 = true then (some (g_wi (g_wi (g_wr x (t + 3) (x.1 t 5).toNatClampNeg p1) (t + 4) ((g_wr x (t + 3) (x.1 t 5).toNatClampNeg p1).1 t 5).toNatClampNeg p2) t 5 (((g_wi (g_wr x (t + 3) (x.1 t 5).toNatClampNeg p1) (t + 4) ((g_wr x (t + 3) (x.1 t 5).toNatClampNeg p1).1 t 5).toNatClampNeg p2).1 t 5) + (1 : Int32)))) else none) else none) else none)))
def f_X2_readProduct_34 (val : Int32 → CS → Option CS) (k7 : Int32 → Int32 → CS → Option (CS)) (l1 : Int32) (l2 : Int32) (x : CS) : Option (CS) :=
  (f_X2_step x).bind fun q5 => (val l1 q5).bind fun q6 => if kd (q6.2 162 1) = 7 then ((f_X5_addSign (q6.2 162 1) (x.2 162 5) (0 : Int32) q6).bind fun q8 => k7 l1 (l2 + (1 : Int32)) q8) else none
def f_X2_readProduct_7 (val : Int32 → CS → Option CS) : Nat → Int32 → Int32 → CS → Option (CS)
  | 0, _, _, _ => none
  | n + 1, l1, l2, x => if (400 : Int32) ≤ l2 then (some (x)) else (if (x.2 162 5) = 34 then (f_X2_readProduct_34 val (f_X2_readProduct_7 val n) l1 l2 x) else (if (x.2 162 5) = 35 then (f_X2_readProduct_34 val (f_X2_readProduct_7 val n) l1 l2 x) else (some (x))))
def f_X2_readProduct (val : Int32 → CS → Option CS) (p1 : Int32) (x : CS) : Option (CS) :=
  (val p1 x).bind fun q1 => f_X2_readProduct_7 val g_fuel p1 (0 : Int32) q1
def f_X2_readSum_34 (val : Int32 → CS → Option CS) (k7 : Int32 → Int32 → CS → Option (CS)) (l1 : Int32) (l2 : Int32) (x : CS) : Option (CS) :=
  (f_X2_step x).bind fun q5 => (f_X2_readProduct val l1 q5).bind fun q6 => if kd (q6.2 162 1) = 7 then ((f_X5_addSign (q6.2 162 1) (x.2 162 5) (0 : Int32) q6).bind fun q8 => k7 l1 (l2 + (1 : Int32)) q8) else none
def f_X2_readSum_7 (val : Int32 → CS → Option CS) : Nat → Int32 → Int32 → CS → Option (CS)
  | 0, _, _, _ => none
  | n + 1, l1, l2, x => if (400 : Int32) ≤ l2 then (some (x)) else (if (x.2 162 5) = 32 then (f_X2_readSum_34 val (f_X2_readSum_7 val n) l1 l2 x) else (if (x.2 162 5) = 33 then (f_X2_readSum_34 val (f_X2_readSum_7 val n) l1 l2 x) else (some (x))))
def f_X2_readSum (val : Int32 → CS → Option CS) (p1 : Int32) (x : CS) : Option (CS) :=
  (f_X2_readProduct val p1 x).bind fun q1 => f_X2_readSum_7 val g_fuel p1 (0 : Int32) q1
def f_X2_requireDepth (p1 : Int32) (x : CS) : Option (CS) :=
  if p1 < (8 : Int32) then (some (x)) else ((f_X2_refuse x).bind fun q2 => some (q2))
def f_X2_readChoice_23 (val : Int32 → CS → Option CS) (l1 : Int32) (l2 : Nat) (x : CS) : Option (CS) :=
  (f_X2_requireDepth l1 x).bind fun q4 => (f_X2_step q4).bind fun q5 => (f_X2_readSum val (l1 + (1 : Int32)) q5).bind fun q6 => (f_X2_expect 31 q6).bind fun q7 => (f_X2_readSum val (l1 + (1 : Int32)) q7).bind fun q8 => (f_X2_expect 27 q8).bind fun q9 => if kd (q9.2 162 1) = 7 then ((f_X5_addSign (q9.2 162 1) l2 (0 : Int32) q9).bind fun q11 => some (q11)) else none
def f_X2_readChoice (val : Int32 → CS → Option CS) (p1 : Int32) (x : CS) : Option (CS) :=
  (f_X2_step x).bind fun q1 => if (q1.2 162 5) = 26 then (f_X2_readChoice_23 val p1 (x.2 162 5) q1) else ((f_X2_refuse q1).bind fun q3 => f_X2_readChoice_23 val p1 (x.2 162 5) q3)
def f_X2_readValue_185 (val : Int32 → CS → Option CS) (x : CS) : Option (CS) :=
  if kd (x.2 162 1) = 7 then ((f_X5_addSign (x.2 162 1) (x.2 162 5) (x.1 162 7) x).bind fun q27 => (f_X2_step q27).bind fun q28 => some (q28)) else none
def f_X2_readValue_124 (val : Int32 → CS → Option CS) (x : CS) : Option (CS) :=
  (f_X2_step x).bind fun q21 => (f_X2_expect 18 q21).bind fun q22 => if kd (q22.2 162 1) = 7 then ((f_X2_readKnownName q22).bind fun q24 => (f_X5_addSign (q22.2 162 1) (x.2 162 5) q24.1 q24.2).bind fun q25 => some (q25)) else none
def f_X2_readValue_96 (val : Int32 → CS → Option CS) (l1 : Int32) (x : CS) : Option (CS) :=
  (f_X2_readChoice val l1 x).bind fun q20 => some (q20)
def f_X2_readValue : Nat → Int32 → CS → Option (CS)
  | 0, _, _ => none
  | n + 1, p1, x => if (x.2 162 5) = 33 then ((f_X2_requireDepth p1 x).bind fun q15 => (f_X2_step q15).bind fun q16 => (f_X2_readValue n (p1 + (1 : Int32)) q16).bind fun q17 => if kd (q17.2 162 1) = 7 then ((f_X5_addSign (q17.2 162 1) 43 (0 : Int32) q17).bind fun q19 => some (q19)) else none) else (if (x.2 162 5) = 26 then ((f_X2_requireDepth p1 x).bind fun q11 => (f_X2_step q11).bind fun q12 => (f_X2_readSum (f_X2_readValue n) (p1 + (1 : Int32)) q12).bind fun q13 => (f_X2_expect 27 q13).bind fun q14 => some (q14)) else (if (x.2 162 5) = 24 then (f_X2_readValue_96 (f_X2_readValue n) p1 x) else (if (x.2 162 5) = 25 then (f_X2_readValue_96 (f_X2_readValue n) p1 x) else (if (x.2 162 5) = 16 then (f_X2_readValue_124 (f_X2_readValue n) x) else (if (x.2 162 5) = 17 then (f_X2_readValue_124 (f_X2_readValue n) x) else (if (x.2 162 5) = 42 then (f_X2_readValue_185 (f_X2_readValue n) x) else (if (x.2 162 5) = 14 then (f_X2_readValue_185 (f_X2_readValue n) x) else (if (x.2 162 5) = 15 then (f_X2_readValue_185 (f_X2_readValue n) x) else ((f_X2_refuse x).bind fun q10 => some (q10))))))))))
def f_X2_readBoth_7 (sgl : Int32 → CS → Option CS) : Nat → Int32 → Int32 → CS → Option (CS)
  | 0, _, _, _ => none
  | n + 1, l1, l2, x => if (400 : Int32) ≤ l2 then (some (x)) else (if (x.2 162 5) = 22 then ((f_X2_step x).bind fun q4 => (sgl l1 q4).bind fun q5 => if kd (q5.2 162 1) = 7 then ((f_X5_addSign (q5.2 162 1) 22 (0 : Int32) q5).bind fun q7 => f_X2_readBoth_7 sgl n l1 (l2 + (1 : Int32)) q7) else none) else (some (x)))
def f_X2_readBoth (sgl : Int32 → CS → Option CS) (p1 : Int32) (x : CS) : Option (CS) :=
  (sgl p1 x).bind fun q1 => f_X2_readBoth_7 sgl g_fuel p1 (0 : Int32) q1
def f_X2_readTest_7 (sgl : Int32 → CS → Option CS) : Nat → Int32 → Int32 → CS → Option (CS)
  | 0, _, _, _ => none
  | n + 1, l1, l2, x => if (400 : Int32) ≤ l2 then (some (x)) else (if (x.2 162 5) = 23 then ((f_X2_step x).bind fun q4 => (f_X2_readBoth sgl l1 q4).bind fun q5 => if kd (q5.2 162 1) = 7 then ((f_X5_addSign (q5.2 162 1) 23 (0 : Int32) q5).bind fun q7 => f_X2_readTest_7 sgl n l1 (l2 + (1 : Int32)) q7) else none) else (some (x)))
def f_X2_readTest (sgl : Int32 → CS → Option CS) (p1 : Int32) (x : CS) : Option (CS) :=
  (f_X2_readBoth sgl p1 x).bind fun q1 => f_X2_readTest_7 sgl g_fuel p1 (0 : Int32) q1
def f_X2_isComparison (x : CS) : Option (Int32) :=
  if (x.2 162 5) = 36 then (some ((1 : Int32))) else (if (x.2 162 5) = 37 then (some ((1 : Int32))) else (if (x.2 162 5) = 38 then (some ((1 : Int32))) else (if (x.2 162 5) = 39 then (some ((1 : Int32))) else (if (x.2 162 5) = 40 then (some ((1 : Int32))) else (some ((0 : Int32)))))))
def f_X2_readSingle_148 (sgl : Int32 → CS → Option CS) (l1 : Int32) (l2 : Nat) (x : CS) : Option (CS) :=
  (f_X2_readSum (f_X2_readValue 12) l1 x).bind fun q23 => if kd (q23.2 162 1) = 7 then ((f_X5_addSign (q23.2 162 1) l2 (0 : Int32) q23).bind fun q25 => some (q25)) else none
def f_X2_readSingle_96 (sgl : Int32 → CS → Option CS) (x : CS) : Option (CS) :=
  (f_X2_step x).bind fun q19 => if kd (q19.2 162 1) = 7 then ((f_X2_readKnownName q19).bind fun q21 => (f_X5_addSign (q19.2 162 1) (x.2 162 5) q21.1 q21.2).bind fun q22 => some (q22)) else none
def f_X2_readSingle : Nat → Int32 → CS → Option (CS)
  | 0, _, _ => none
  | n + 1, p1, x => if (x.2 162 5) = 21 then ((f_X2_requireDepth p1 x).bind fun q14 => (f_X2_step q14).bind fun q15 => (f_X2_readSingle n (p1 + (1 : Int32)) q15).bind fun q16 => if kd (q16.2 162 1) = 7 then ((f_X5_addSign (q16.2 162 1) 21 (0 : Int32) q16).bind fun q18 => some (q18)) else none) else (if (x.2 162 5) = 28 then ((f_X2_requireDepth p1 x).bind fun q10 => (f_X2_step q10).bind fun q11 => (f_X2_readTest (f_X2_readSingle n) (p1 + (1 : Int32)) q11).bind fun q12 => (f_X2_expect 29 q12).bind fun q13 => some (q13)) else (if (x.2 162 5) = 19 then (f_X2_readSingle_96 (f_X2_readSingle n) x) else (if (x.2 162 5) = 20 then (f_X2_readSingle_96 (f_X2_readSingle n) x) else ((f_X2_readSum (f_X2_readValue 12) p1 x).bind fun q5 => (f_X2_isComparison q5).bind fun q6 => if q6 = 0 then ((f_X2_refuse q5).bind fun q8 => f_X2_readSingle_148 (f_X2_readSingle n) p1 (q5.2 162 5) q8) else ((f_X2_step q5).bind fun q9 => f_X2_readSingle_148 (f_X2_readSingle n) p1 (q5.2 162 5) q9)))))
def f_X5_addRule (t : Nat) (p1 : Nat) (p2 : Int32) (p3 : Int32) (p4 : Int32) (x : CS) : Option (CS) :=
  if (16 : Int32) ≤ (x.1 t 4) then (some (x)) else ((f_X5_rule t (x.1 t 4) x).bind fun q2 => if kd (q2) = 8 then (some (g_wi (g_wi (g_wi (g_wi (g_wi (g_wr x q2 0 p1) q2 1 p2) q2 2 p3) q2 3 p4) q2 4 ((g_wi (g_wi (g_wi (g_wr x q2 0 p1) q2 1 p2) q2 2 p3) q2 3 p4).1 t 5)) t 4 (((g_wi (g_wi (g_wi (g_wi (g_wr x q2 0 p1) q2 1 p2) q2 2 p3) q2 3 p4) q2 4 ((g_wi (g_wi (g_wi (g_wr x q2 0 p1) q2 1 p2) q2 2 p3) q2 3 p4).1 t 5)).1 t 4) + (1 : Int32)))) else none)
def f_X2_readRule_121 (l1 : Nat) (l2 : Int32) (l3 : Int32) (l4 : Int32) (x : CS) : Option (CS) :=
  if kd (x.2 162 1) = 7 then ((f_X5_addRule (x.2 162 1) l1 l2 l3 l4 x).bind fun q19 => some (q19)) else none
def f_X2_readRule_93 (l1 : Nat) (l2 : Int32) (l3 : Int32) (x : CS) : Option (CS) :=
  if kd (x.2 162 1) = 7 then (if (x.2 162 5) = 13 then ((f_X2_step x).bind fun q16 => (f_X2_readTest (f_X2_readSingle 12) (0 : Int32) q16).bind fun q17 => f_X2_readRule_121 l1 l2 l3 (x.1 (x.2 162 1) 5) q17) else (f_X2_readRule_121 l1 l2 l3 (x.1 (x.2 162 1) 5) x)) else none
def f_X2_readRule_52 (x : CS) : Option (CS) :=
  (f_X2_step x).bind fun q8 => (f_X2_readKnownName q8).bind fun q9 => if kd (q9.2.2 162 1) = 7 then (if (x.2 162 5) = 11 then ((f_X2_expect 12 q9.2).bind fun q12 => (f_X2_readSum (f_X2_readValue 12) (0 : Int32) q12).bind fun q13 => f_X2_readRule_93 (x.2 162 5) q9.1 (q9.2.1 (q9.2.2 162 1) 5) q13) else (f_X2_readRule_93 (x.2 162 5) q9.1 (q9.2.1 (q9.2.2 162 1) 5) q9.2)) else none
def f_X2_readRule_35 (x : CS) : Option (CS) :=
  if kd (x.2 162 1) = 7 then (if (x.1 (x.2 162 1) 4) < (16 : Int32) then (f_X2_readRule_52 x) else ((f_X2_blame (4 : Int32) x).bind fun q7 => f_X2_readRule_52 q7)) else none
def f_X2_readRule (x : CS) : Option (CS) :=
  if (x.2 162 5) = 9 then (f_X2_readRule_35 x) else (if (x.2 162 5) = 10 then (f_X2_readRule_35 x) else (if (x.2 162 5) = 11 then (f_X2_readRule_35 x) else ((f_X2_refuse x).bind fun q4 => some (q4))))
def f_X2_readLanguage_128 (k20 : Int32 → CS → Option (CS)) (l1 : Int32) (x : CS) : Option (CS) :=
  (f_X2_expect 30 x).bind fun q20 => k20 (l1 + (1 : Int32)) q20
def f_X2_readLanguage_20  : Nat → Int32 → CS → Option (CS)
  | 0, _, _ => none
  | n + 1, l1, x => if (400 : Int32) ≤ l1 then (some (x)) else (if (x.1 162 8) = (1 : Int32) then (some (x)) else (if (x.2 162 5) = 44 then (some (x)) else (if (x.2 162 5) = 0 then ((f_X2_readWord x).bind fun q19 => f_X2_readLanguage_128 (f_X2_readLanguage_20 n) l1 q19) else (if (x.2 162 5) = 7 then ((f_X2_step x).bind fun q16 => if kd (q16.2 162 1) = 7 then ((f_X2_readNumber (0 : Int32) (20 : Int32) q16).bind fun q18 => f_X2_readLanguage_128 (f_X2_readLanguage_20 n) l1 (g_wi q18.2 (q16.2 162 1) 6 q18.1)) else none) else (if (x.2 162 5) = 8 then ((f_X2_step x).bind fun q13 => if kd (q13.2 162 1) = 7 then ((f_X2_readNumber (0 : Int32) (99 : Int32) q13).bind fun q15 => f_X2_readLanguage_128 (f_X2_readLanguage_20 n) l1 (g_wi q15.2 (q13.2 162 1) 7 q15.1)) else none) else ((f_X2_readRule x).bind fun q12 => f_X2_readLanguage_128 (f_X2_readLanguage_20 n) l1 q12))))))
def f_X2_readLanguage (x : CS) : Option (CS) :=
  if kd (x.2 162 1) = 7 then ((f_X5_clear (x.2 162 1) x).bind fun q2 => if kd (q2.2 162 2) = 9 then ((f_X9_clear (q2.2 162 2) q2).bind fun q4 => (f_X2_step q4).bind fun q5 => f_X2_readLanguage_20 g_fuel (0 : Int32) q5) else none) else none
def f_X3_contour (t : Nat) (p1 : Int32) (x : CS) : Option (Int32) :=
  if p1 < 0 then (some ((0 : Int32))) else (if p1 < ((x.1 t 1) - (1 : Int32)) then ((f_X3_pitch t p1 x).bind fun q3 => (f_X3_pitch t (p1 + (1 : Int32)) x).bind fun q4 => if q4 ≤ q3 then (if q3 ≤ q4 then (some ((0 : Int32))) else (some ((-1 : Int32)))) else (some ((1 : Int32)))) else (some ((0 : Int32))))
def f_X3_countSilent_4 (x : CS) : Nat → Nat → Int32 → Int32 → Option (Int32)
  | 0, _, _, _ => none
  | n + 1, l0, l1, l2 => if (x.1 l0 1) ≤ l2 then (some (l1)) else ((f_X3_pitch l0 l2 x).bind fun q2 => if q2 = 0 then (f_X3_countSilent_4 x n l0 (l1 + (1 : Int32)) (l2 + (1 : Int32))) else (f_X3_countSilent_4 x n l0 l1 (l2 + (1 : Int32))))
def f_X3_countSilent (t : Nat) (x : CS) : Option (Int32) :=
  f_X3_countSilent_4 x g_fuel t (0 : Int32) (0 : Int32)
def f_X3_copyFrom_10  : Nat → Nat → Nat → Int32 → CS → Option (CS)
  | 0, _, _, _, _ => none
  | n + 1, l0, l1, l2, x => if (24 : Int32) ≤ l2 then (some (x)) else ((f_X3_pitch l1 l2 x).bind fun q2 => if g_ok l2 24 = true then (f_X3_copyFrom_10 n l0 l1 (l2 + (1 : Int32)) (g_wi x (l0 + 1) l2.toNatClampNeg q2)) else none)
def f_X3_copyFrom (t : Nat) (p1 : Nat) (x : CS) : Option (CS) :=
  f_X3_copyFrom_10 g_fuel t p1 (0 : Int32) (g_wi x t 1 (x.1 p1 1))
def f_X3_traceContour_10  : Nat → Nat → Nat → Int32 → CS → Option (CS)
  | 0, _, _, _, _ => none
  | n + 1, l0, l1, l2, x => if (24 : Int32) ≤ l2 then (some (x)) else ((f_X3_contour l1 l2 x).bind fun q2 => if g_ok l2 24 = true then (f_X3_traceContour_10 n l0 l1 (l2 + (1 : Int32)) (g_wi x (l0 + 1) l2.toNatClampNeg q2)) else none)
def f_X3_traceContour (t : Nat) (p1 : Nat) (x : CS) : Option (CS) :=
  f_X3_traceContour_10 g_fuel t p1 (0 : Int32) (g_wi x t 1 (x.1 p1 1))
def f_X7_append_3  : Nat → Int32 → Int32 → CS → Option (CS)
  | 0, _, _, _ => none
  | n + 1, l1, l2, x => if l2 < 0 then (some (x)) else (if (x.1 1 1) < 0 then (f_X7_append_3 n l1 (l2 + (-8 : Int32)) x) else (if (2000 : Int32) ≤ (x.1 1 1) then (f_X7_append_3 n l1 (l2 + (-8 : Int32)) x) else (if g_ok (x.1 1 1) 2000 = true then (f_X7_append_3 n l1 (l2 + (-8 : Int32)) (g_wi (g_wi x 2 (x.1 1 1).toNatClampNeg (vp_nar .char (((((l1.toUInt32 >>> (l2.toUInt32 &&& Int32.toUInt32 31)).toInt32) &&& (255 : Int32)).toUInt32 % 65536).toInt32))) 1 1 (((g_wi x 2 (x.1 1 1).toNatClampNeg (vp_nar .char (((((l1.toUInt32 >>> (l2.toUInt32 &&& Int32.toUInt32 31)).toInt32) &&& (255 : Int32)).toUInt32 % 65536).toInt32))).1 1 1) + (1 : Int32)))) else none)))
def f_X7_append (p1 : Int32) (x : CS) : Option (CS) :=
  f_X7_append_3 g_fuel p1 (24 : Int32) x
def f_X7_byteAt (p1 : Int32) (x : CS) : Option (Int32) :=
  if p1 < 0 then (some ((-1 : Int32))) else (if (x.1 1 1) ≤ p1 then (some ((-1 : Int32))) else (if (2000 : Int32) ≤ p1 then (some ((-1 : Int32))) else (if g_ok p1 2000 = true then (some (x.1 2 p1.toNatClampNeg)) else none)))
def f_X7_isLetter (p1 : Int32) (x : CS) : Option (Int32) :=
  (f_X7_byteAt p1 x).bind fun q1 => if q1 < (97 : Int32) then (some ((0 : Int32))) else (if (122 : Int32) < q1 then (some ((0 : Int32))) else (some ((1 : Int32))))
def f_X7_isDigit (p1 : Int32) (x : CS) : Option (Int32) :=
  (f_X7_byteAt p1 x).bind fun q1 => if q1 < (48 : Int32) then (some ((0 : Int32))) else (if (57 : Int32) < q1 then (some ((0 : Int32))) else (some ((1 : Int32))))
def f_X7_behindBlanks_2 (x : CS) : Nat → Int32 → Option (Int32)
  | 0, _ => none
  | n + 1, l2 => if (x.1 1 1) ≤ l2 then (some (l2)) else ((f_X7_byteAt l2 x).bind fun q2 => if q2 = (32 : Int32) then (f_X7_behindBlanks_2 x n (l2 + (1 : Int32))) else ((f_X7_byteAt l2 x).bind fun q4 => if q4 = (10 : Int32) then (f_X7_behindBlanks_2 x n (l2 + (1 : Int32))) else (some (l2))))
def f_X7_behindBlanks (p1 : Int32) (x : CS) : Option (Int32) :=
  f_X7_behindBlanks_2 x g_fuel p1
def f_X7_spells_2 (x : CS) : Nat → Int32 → Nat → Int32 → Option (Int32)
  | 0, _, _, _ => none
  | n + 1, l1, l2, l3 => if l2 < 72 then ((f_J0_length_8abf5 l2).bind fun q1 => if q1 ≤ l3 then (some ((1 : Int32))) else ((f_X7_byteAt (l1 + l3) x).bind fun q3 => if l2 < 72 then ((f_J0_charAt_5068e l2 l3).bind fun q4 => if q3 = q4 then (f_X7_spells_2 x n l1 l2 (l3 + (1 : Int32))) else (some ((0 : Int32)))) else none)) else none
def f_X7_spells (p1 : Int32) (p2 : Nat) (x : CS) : Option (Int32) :=
  f_X7_spells_2 x g_fuel p1 p2 (0 : Int32)
def f_X7_alike_3 (x : CS) : Nat → Int32 → Int32 → Int32 → Int32 → Option (Int32)
  | 0, _, _, _, _ => none
  | n + 1, l1, l2, l3, l4 => if l3 ≤ l4 then (some ((1 : Int32))) else ((f_X7_byteAt (l1 + l4) x).bind fun q2 => (f_X7_byteAt (l2 + l4) x).bind fun q3 => if q2 = q3 then (f_X7_alike_3 x n l1 l2 l3 (l4 + (1 : Int32))) else (some ((0 : Int32))))
def f_X7_alike (p1 : Int32) (p2 : Int32) (p3 : Int32) (x : CS) : Option (Int32) :=
  f_X7_alike_3 x g_fuel p1 p2 p3 (0 : Int32)
def f_X8_size (p1 : Int32) (x : CS) : Option (Int32) :=
  if p1 < 0 then (some ((0 : Int32))) else (if (401 : Int32) ≤ p1 then (some ((0 : Int32))) else (if g_ok p1 401 = true then (some (x.1 6 p1.toNatClampNeg)) else none))
def f_X8_add (p1 : Nat) (p2 : Int32) (p3 : Int32) (p4 : Int32) (x : CS) : Option (CS) :=
  if (x.1 3 5) < 0 then (some (x)) else (if (401 : Int32) ≤ (x.1 3 5) then (some (x)) else (if (401 : Int32) ≤ (x.1 3 5) then (some (x)) else (if (401 : Int32) ≤ (x.1 3 5) then (some (x)) else (if (401 : Int32) ≤ (x.1 3 5) then (some (x)) else (if g_ok (x.1 3 5) 401 = true then (if p1 < 46 then (if g_ok ((g_wr x 4 (x.1 3 5).toNatClampNeg p1).1 3 5) 401 = true then (if g_ok ((g_wi (g_wr x 4 (x.1 3 5).toNatClampNeg p1) 5 ((g_wr x 4 (x.1 3 5).toNatClampNeg p1).1 3 5).toNatClampNeg p2).1 3 5) 401 = true then (if g_ok ((g_wi (g_wi (g_wr x 4 (x.1 3 5).toNatClampNeg p1) 5 ((g_wr x 4 (x.1 3 5).toNatClampNeg p1).1 3 5).toNatClampNeg p2) 6 ((g_wi (g_wr x 4 (x.1 3 5).toNatClampNeg p1) 5 ((g_wr x 4 (x.1 3 5).toNatClampNeg p1).1 3 5).toNatClampNeg p2).1 3 5).toNatClampNeg p3).1 3 5) 401 = true then (some (g_wi (g_wi (g_wi (g_wi (g_wr x 4 (x.1 3 5).toNatClampNeg p1) 5 ((g_wr x 4 (x.1 3 5).toNatClampNeg p1).1 3 5).toNatClampNeg p2) 6 ((g_wi (g_wr x 4 (x.1 3 5).toNatClampNeg p1) 5 ((g_wr x 4 (x.1 3 5).toNatClampNeg p1).1 3 5).toNatClampNeg p2).1 3 5).toNatClampNeg p3) 7 ((g_wi (g_wi (g_wr x 4 (x.1 3 5).toNatClampNeg p1) 5 ((g_wr x 4 (x.1 3 5).toNatClampNeg p1).1 3 5).toNatClampNeg p2) 6 ((g_wi (g_wr x 4 (x.1 3 5).toNatClampNeg p1) 5 ((g_wr x 4 (x.1 3 5).toNatClampNeg p1).1 3 5).toNatClampNeg p2).1 3 5).toNatClampNeg p3).1 3 5).toNatClampNeg p4) 3 5 (((g_wi (g_wi (g_wi (g_wr x 4 (x.1 3 5).toNatClampNeg p1) 5 ((g_wr x 4 (x.1 3 5).toNatClampNeg p1).1 3 5).toNatClampNeg p2) 6 ((g_wi (g_wr x 4 (x.1 3 5).toNatClampNeg p1) 5 ((g_wr x 4 (x.1 3 5).toNatClampNeg p1).1 3 5).toNatClampNeg p2).1 3 5).toNatClampNeg p3) 7 ((g_wi (g_wi (g_wr x 4 (x.1 3 5).toNatClampNeg p1) 5 ((g_wr x 4 (x.1 3 5).toNatClampNeg p1).1 3 5).toNatClampNeg p2) 6 ((g_wi (g_wr x 4 (x.1 3 5).toNatClampNeg p1) 5 ((g_wr x 4 (x.1 3 5).toNatClampNeg p1).1 3 5).toNatClampNeg p2).1 3 5).toNatClampNeg p3).1 3 5).toNatClampNeg p4).1 3 5) + (1 : Int32)))) else none) else none) else none) else none) else none)))))
def f_X8_longestSpelled_6 (x : CS) : Nat → Int32 → Nat → Int32 → Option (Nat)
  | 0, _, _, _ => none
  | n + 1, l1, l2, l3 => if (46 : Int32) ≤ l3 then (some (l2)) else (if g_ok l3 46 = true then (if l3.toNatClampNeg < 46 then (if l3.toNatClampNeg < 72 then ((f_J0_length_8abf5 l3.toNatClampNeg).bind fun q4 => if l2 < 46 then (if l2 < 72 then ((f_J0_length_8abf5 l2).bind fun q6 => if q4 ≤ q6 then (f_X8_longestSpelled_6 x n l1 l2 (l3 + (1 : Int32))) else ((f_X7_spells l1 l3.toNatClampNeg x).bind fun q8 => if q8 = 0 then (f_X8_longestSpelled_6 x n l1 l2 (l3 + (1 : Int32))) else (if g_ok l3 46 = true then (f_X8_longestSpelled_6 x n l1 l3.toNatClampNeg (l3 + (1 : Int32))) else none))) else none) else none) else none) else none) else none)
def f_X8_longestSpelled (p1 : Int32) (x : CS) : Option (Nat) :=
  f_X8_longestSpelled_6 x g_fuel p1 45 (0 : Int32)
def f_X8_firstAlike_2 (x : CS) : Nat → Int32 → Int32 → Int32 → Option (Int32)
  | 0, _, _, _ => none
  | n + 1, l1, l2, l3 => if (x.1 3 5) ≤ l3 then (some (x.1 3 5)) else ((f_X8_sign l3 x).bind fun q2 => if q2 = 41 then ((f_X8_size l3 x).bind fun q4 => if q4 = l2 then ((f_X8_place l3 x).bind fun q6 => (f_X7_alike q6 l1 l2 x).bind fun q7 => if q7 = 0 then (f_X8_firstAlike_2 x n l1 l2 (l3 + (1 : Int32))) else (some (l3))) else (f_X8_firstAlike_2 x n l1 l2 (l3 + (1 : Int32)))) else (f_X8_firstAlike_2 x n l1 l2 (l3 + (1 : Int32))))
def f_X8_firstAlike (p1 : Int32) (p2 : Int32) (x : CS) : Option (Int32) :=
  f_X8_firstAlike_2 x g_fuel p1 p2 (0 : Int32)
def f_X8_readWord_41 (l1 : Int32) (l2 : Int32) (x : CS) : Option (CS) :=
  if (l2 - l1) ≤ (10 : Int32) then ((f_X8_longestSpelled l1 x).bind fun q7 => if q7 < 46 then (if q7 < 72 then ((f_J0_length_8abf5 q7).bind fun q9 => if q9 = (l2 - l1) then ((f_X8_add q7 l1 (l2 - l1) (0 : Int32) x).bind fun q13 => some (q13)) else ((f_X8_firstAlike l1 (l2 - l1) x).bind fun q11 => (f_X8_add 41 l1 (l2 - l1) q11 x).bind fun q12 => some (q12))) else none) else none) else ((f_X8_add 45 l1 (l2 - l1) (0 : Int32) x).bind fun q15 => some (q15))
def f_X8_readWord_2  : Nat → Int32 → Int32 → CS → Option (CS)
  | 0, _, _, _ => none
  | n + 1, l1, l2, x => if (x.1 1 1) ≤ l2 then (f_X8_readWord_41 l1 l2 x) else ((f_X7_isLetter l2 x).bind fun q2 => if q2 = 0 then ((f_X7_isDigit l2 x).bind fun q4 => if q4 = 0 then (f_X8_readWord_41 l1 l2 x) else (f_X8_readWord_2 n l1 (l2 + (1 : Int32)) x)) else (f_X8_readWord_2 n l1 (l2 + (1 : Int32)) x))
def f_X8_readWord (p1 : Int32) (x : CS) : Option (CS) :=
  f_X8_readWord_2 g_fuel p1 p1 x
def f_X8_readNumber_71 (l1 : Int32) (l3 : Int32) (l4 : Int32) (s0 : Nat) (x : CS) : Option (CS) :=
  (f_X8_add s0 l1 l4 l3 x).bind fun q6 => some (q6)
def f_X8_readNumber_49 (l1 : Int32) (l2 : Int32) (l3 : Int32) (x : CS) : Option (CS) :=
  if (l2 - l1) ≤ (6 : Int32) then (f_X8_readNumber_71 l1 l3 (l2 - l1) 42 x) else (f_X8_readNumber_71 l1 l3 (l2 - l1) 45 x)
def f_X8_readNumber_4  : Nat → Int32 → Int32 → Int32 → CS → Option (CS)
  | 0, _, _, _, _ => none
  | n + 1, l1, l2, l3, x => if (x.1 1 1) ≤ l2 then (f_X8_readNumber_49 l1 l2 l3 x) else ((f_X7_isDigit l2 x).bind fun q2 => if q2 = 0 then (f_X8_readNumber_49 l1 l2 l3 x) else ((f_X7_byteAt l2 x).bind fun q4 => f_X8_readNumber_4 n l1 (l2 + (1 : Int32)) (((l3 * (10 : Int32)) + q4) - (48 : Int32)) x))
def f_X8_readNumber (p1 : Int32) (x : CS) : Option (CS) :=
  f_X8_readNumber_4 g_fuel p1 p1 (0 : Int32) x
def f_X8_readSymbol (p1 : Int32) (x : CS) : Option (CS) :=
  (f_X8_longestSpelled p1 x).bind fun q1 => if q1 < 46 then (if q1 < 72 then ((f_J0_length_8abf5 q1).bind fun q3 => (f_X8_add q1 p1 q3 (0 : Int32) x).bind fun q4 => some (q4)) else none) else none
def f_X8_readToken (p1 : Int32) (x : CS) : Option (CS) :=
  if p1 < (x.1 1 1) then (if (x.1 3 5) < (400 : Int32) then ((f_X7_isLetter p1 x).bind fun q3 => if q3 = 0 then ((f_X7_isDigit p1 x).bind fun q5 => if q5 = 0 then ((f_X8_readSymbol p1 x).bind fun q7 => some (q7)) else ((f_X8_readNumber p1 x).bind fun q8 => some (q8))) else ((f_X8_readWord p1 x).bind fun q9 => some (q9))) else ((f_X8_add 45 p1 (0 : Int32) (0 : Int32) x).bind fun q10 => some (q10))) else ((f_X8_add 44 p1 (0 : Int32) (0 : Int32) x).bind fun q11 => some (q11))
def f_X8_readTape_16  : Nat → Int32 → Int32 → CS → Option (CS)
  | 0, _, _, _ => none
  | n + 1, l1, l2, x => if (400 : Int32) < l2 then (some (x)) else ((f_X8_readToken l1 x).bind fun q3 => (f_X8_sign l2 q3).bind fun q4 => if q4 = 44 then (some (q3)) else ((f_X8_sign l2 q3).bind fun q6 => if q6 = 45 then (some (q3)) else ((f_X8_size l2 q3).bind fun q8 => (f_X7_behindBlanks (l1 + q8) q3).bind fun q9 => f_X8_readTape_16 n q9 (l2 + (1 : Int32)) q3)))
def f_X8_readTape (x : CS) : Option (CS) :=
  (f_X7_behindBlanks (0 : Int32) (g_wi x 3 5 (0 : Int32))).bind fun q1 => f_X8_readTape_16 g_fuel q1 (0 : Int32) (g_wi x 3 5 (0 : Int32))
def f_X9_copyFrom_26  : Nat → Nat → Nat → Int32 → CS → Option (CS)
  | 0, _, _, _, _ => none
  | n + 1, l0, l1, l2, x => if (x.1 l0 2) ≤ l2 then (some (x)) else ((f_X9_word l0 l2 x).bind fun q2 => if kd (q2) = 10 then ((f_X9_word l1 l2 x).bind fun q4 => if kd (q4) = 10 then ((f_X3_copyFrom (q2 + 1) (q4 + 1) x).bind fun q6 => (f_X9_word l0 l2 q6).bind fun q7 => if kd (q7) = 10 then ((f_X9_word l1 l2 q6).bind fun q9 => if kd (q9) = 10 then (if (q6.1 q9 1) = 0 ∨ (q6.1 q9 1) = 1 then ((f_X9_word l0 l2 (g_wi q6 q7 1 (q6.1 q9 1))).bind fun q12 => if kd (q12) = 10 then ((f_X9_word l1 l2 (g_wi q6 q7 1 (q6.1 q9 1))).bind fun q14 => if kd (q14) = 10 then (f_X9_copyFrom_26 n l0 l1 (l2 + (1 : Int32)) (g_wi (g_wi q6 q7 1 (q6.1 q9 1)) q12 2 ((g_wi q6 q7 1 (q6.1 q9 1)).1 q14 2))) else none) else none) else none) else none) else none) else none) else none)
def f_X9_copyFrom (t : Nat) (p1 : Nat) (x : CS) : Option (CS) :=
  f_X9_copyFrom_26 g_fuel t p1 (0 : Int32) (g_wi (g_wi (g_wi x t 2 (x.1 p1 2)) t 3 ((g_wi x t 2 (x.1 p1 2)).1 p1 3)) t 4 ((g_wi (g_wi x t 2 (x.1 p1 2)) t 3 ((g_wi x t 2 (x.1 p1 2)).1 p1 3)).1 p1 4))
def f_X10_fewestSteps (p1 : Nat) (p2 : Nat) (p3 : Int32) (x : CS) : Option (Int32 × CS) :=
  (f_X10_lightest p1 p2 p3 (0 : Int32) x).bind fun q1 => some ((q1.1 - q1.1 / (64 : Int32) * (64 : Int32), q1.2))
def f_X10_contourDistance (p1 : Nat) (p2 : Nat) (p3 : Int32) (x : CS) : Option (Int32 × CS) :=
  (f_X3_traceContour 10 p1 x).bind fun q1 => (f_X3_traceContour 12 p2 q1).bind fun q2 => (f_X10_lightest 10 12 p3 (1 : Int32) q2).bind fun q3 => some ((q3.1 / (64 : Int32), q3.2))
def f_X12_feed (p1 : Int32) (p2 : Int32) (p3 : Int32) (p4 : Int32) (p5 : Int32) (x : CS) : Option (Nat ⊕ (Int32 × CS)) :=
  if (x.1 1 1) ≤ (1980 : Int32) then ((f_X7_append p1 x).bind fun q2 => (f_X7_append p2 q2).bind fun q3 => (f_X7_append p3 q3).bind fun q4 => (f_X7_append p4 q4).bind fun q5 => (f_X7_append p5 q5).bind fun q6 => some (Sum.inr ((q6.1 1 1, q6)))) else (some (Sum.inl 1))
def f_X12_trim_15 (x : CS) : Option (Nat ⊕ (Int32 × CS)) :=
  some (Sum.inl 2)
def f_X12_trim (p1 : Int32) (x : CS) : Option (Nat ⊕ (Int32 × CS)) :=
  if p1 < 0 then (f_X12_trim_15 x) else (if p1 ≤ (x.1 1 1) then (some (Sum.inr ((p1, g_wi x 1 1 p1)))) else (f_X12_trim_15 x))
def f_X12_errorAt (x : CS) : Option (Int32) :=
  some (x.1 0 10)
def f_X12_words (x : CS) : Option (Int32) :=
  if kd (x.2 0 7) = 9 then (some (x.1 (x.2 0 7) 2)) else none
def f_X12_keptWords (x : CS) : Option (Int32) :=
  if kd (x.2 0 7) = 9 then ((f_X9_countKept (x.2 0 7) x).bind fun q2 => some (q2)) else none
def f_X12_rules (x : CS) : Option (Int32) :=
  if kd (x.2 0 6) = 7 then (some (x.1 (x.2 0 6) 4)) else none
def f_X12_lessons (x : CS) : Option (Int32) :=
  if kd (x.2 0 7) = 9 then (some (x.1 (x.2 0 7) 3)) else none
def f_X12_rulesCarriedOut (x : CS) : Option (Int32) :=
  if kd (x.2 0 7) = 9 then (some (x.1 (x.2 0 7) 4)) else none
def f_X12_heardBeats (x : CS) : Option (Int32) :=
  some (x.1 14 1)
def f_X12_requireWord_15 (x : CS) : Option (Nat ⊕ (Unit)) :=
  some (Sum.inl 3)
def f_X12_requireWord (p1 : Int32) (x : CS) : Option (Nat ⊕ (Unit)) :=
  if p1 < 0 then (f_X12_requireWord_15 x) else (if kd (x.2 0 7) = 9 then (if p1 < (x.1 (x.2 0 7) 2) then (some (Sum.inr (()))) else (f_X12_requireWord_15 x)) else none)
def f_X12_rowOf (p1 : Int32) (x : CS) : Option (Nat) :=
  if kd (x.2 0 7) = 9 then ((f_X9_word (x.2 0 7) p1 x).bind fun q2 => if kd (q2) = 10 then (some (q2 + 1)) else none) else none
def f_X12_lengthOf (p1 : Int32) (x : CS) : Option (Nat ⊕ (Int32)) :=
  (f_X12_requireWord p1 x).bind fun q1 => g_sb q1 (fun _ => (f_X12_rowOf p1 x).bind fun q2 => if kd (q2) = 5 then (some (Sum.inr (x.1 q2 1))) else none)
def f_X12_requireBeat_12 (x : CS) : Option (Nat ⊕ (Unit)) :=
  some (Sum.inl 3)
def f_X12_requireBeat (p1 : Nat) (p2 : Int32) (x : CS) : Option (Nat ⊕ (Unit)) :=
  if p2 < 0 then (f_X12_requireBeat_12 x) else (if p2 < (x.1 p1 1) then (some (Sum.inr (()))) else (f_X12_requireBeat_12 x))
def f_X12_pitchAt (p1 : Int32) (p2 : Int32) (x : CS) : Option (Nat ⊕ (Int32)) :=
  (f_X12_requireWord p1 x).bind fun q1 => g_sb q1 (fun _ => (f_X12_rowOf p1 x).bind fun q2 => if kd (q2) = 5 then ((f_X12_requireBeat q2 p2 x).bind fun q4 => g_sb q4 (fun _ => (f_X12_rowOf p1 x).bind fun q5 => if kd (q5) = 5 then ((f_X3_pitch q5 p2 x).bind fun q7 => some (Sum.inr (q7))) else none)) else none)
def f_X12_contourAt (p1 : Int32) (p2 : Int32) (x : CS) : Option (Nat ⊕ (Int32)) :=
  (f_X12_requireWord p1 x).bind fun q1 => g_sb q1 (fun _ => (f_X12_rowOf p1 x).bind fun q2 => if kd (q2) = 5 then ((f_X12_requireBeat q2 p2 x).bind fun q4 => g_sb q4 (fun _ => (f_X12_rowOf p1 x).bind fun q5 => if kd (q5) = 5 then ((f_X3_contour q5 p2 x).bind fun q7 => some (Sum.inr (q7))) else none)) else none)
def f_X12_isPruned (p1 : Int32) (x : CS) : Option (Nat ⊕ (Int32)) :=
  (f_X12_requireWord p1 x).bind fun q1 => g_sb q1 (fun _ => if kd (x.2 0 7) = 9 then ((f_X9_word (x.2 0 7) p1 x).bind fun q3 => if kd (q3) = 10 then (if (x.1 q3 1) = 0 ∨ (x.1 q3 1) = 1 then (some (Sum.inr (x.1 q3 1))) else none) else none) else none)
def f_X12_silentBeats (p1 : Int32) (x : CS) : Option (Nat ⊕ (Int32)) :=
  (f_X12_requireWord p1 x).bind fun q1 => g_sb q1 (fun _ => (f_X12_rowOf p1 x).bind fun q2 => if kd (q2) = 5 then ((f_X3_countSilent q2 x).bind fun q4 => some (Sum.inr (q4))) else none)
def f_X12_wordsApart (p1 : Int32) (p2 : Int32) (x : CS) : Option (Int32 × CS) :=
  (f_X12_rowOf p1 x).bind fun q1 => if kd (q1) = 5 then ((f_X12_rowOf p2 x).bind fun q3 => if kd (q3) = 5 then (if kd (x.2 0 6) = 7 then ((f_X10_distance q1 q3 (x.1 (x.2 0 6) 6) x).bind fun q6 => some ((q6.1, q6.2))) else none) else none) else none
def f_X12_distanceBetween (p1 : Int32) (p2 : Int32) (x : CS) : Option (Nat ⊕ (Int32 × CS)) :=
  (f_X12_requireWord p1 x).bind fun q1 => g_sb q1 (fun _ => (f_X12_requireWord p2 x).bind fun q2 => g_sb q2 (fun _ => (f_X12_wordsApart p1 p2 x).bind fun q3 => some (Sum.inr ((q3.1, q3.2)))))
def f_X12_contourBetween (p1 : Int32) (p2 : Int32) (x : CS) : Option (Nat ⊕ (Int32 × CS)) :=
  (f_X12_requireWord p1 x).bind fun q1 => g_sb q1 (fun _ => (f_X12_requireWord p2 x).bind fun q2 => g_sb q2 (fun _ => (f_X12_rowOf p1 x).bind fun q3 => if kd (q3) = 5 then ((f_X12_rowOf p2 x).bind fun q5 => if kd (q5) = 5 then (if kd (x.2 0 6) = 7 then ((f_X10_contourDistance q3 q5 (x.1 (x.2 0 6) 6) x).bind fun q8 => some (Sum.inr ((q8.1, q8.2)))) else none) else none) else none))
def f_X12_nearEachOther (p1 : Int32) (p2 : Int32) (x : CS) : Option (Int32 × CS) :=
  (f_X12_rowOf p1 x).bind fun q1 => if kd (q1) = 5 then ((f_X12_rowOf p2 x).bind fun q3 => if kd (q3) = 5 then (if p1 = p2 then (some (((0 : Int32), x))) else ((f_X12_wordsApart p1 p2 x).bind fun q6 => if kd (q6.2.2 0 6) = 7 then (if (((q6.2.1 (q6.2.2 0 6) 7) * (g_max (x.1 q1 1) (x.1 q3 1))) / (4 : Int32)) ≤ q6.1 then (some (((0 : Int32), q6.2))) else (some (((1 : Int32), q6.2)))) else none)) else none) else none
def f_X12_areNear (p1 : Int32) (p2 : Int32) (x : CS) : Option (Nat ⊕ (Int32 × CS)) :=
  (f_X12_requireWord p1 x).bind fun q1 => g_sb q1 (fun _ => (f_X12_requireWord p2 x).bind fun q2 => g_sb q2 (fun _ => (f_X12_nearEachOther p1 p2 x).bind fun q3 => if q3.1 = 0 ∨ q3.1 = 1 then (some (Sum.inr ((q3.1, q3.2)))) else none))
def f_X12_nearestTo_33  : Nat → Int32 → Int32 → Int32 → Int32 → CS → Option (Nat ⊕ (Int32 × CS))
  | 0, _, _, _, _, _ => none
  | n + 1, l1, l2, l3, l4, x => if kd (x.2 0 7) = 9 then (if (x.1 (x.2 0 7) 2) ≤ l4 then (some (Sum.inr ((l2, x)))) else (if l4 = l1 then (f_X12_nearestTo_33 n l1 l2 l3 (l4 + (1 : Int32)) x) else ((f_X12_wordsApart l1 l4 x).bind fun q7 => if l2 = (-1 : Int32) then (f_X12_nearestTo_33 n l1 l4 q7.1 (l4 + (1 : Int32)) q7.2) else (if l3 ≤ q7.1 then (f_X12_nearestTo_33 n l1 l2 l3 (l4 + (1 : Int32)) q7.2) else (f_X12_nearestTo_33 n l1 l4 q7.1 (l4 + (1 : Int32)) q7.2))))) else none
def f_X12_nearestTo (p1 : Int32) (x : CS) : Option (Nat ⊕ (Int32 × CS)) :=
  (f_X12_requireWord p1 x).bind fun q1 => g_sb q1 (fun _ => if kd (x.2 0 7) = 9 then (if (2 : Int32) ≤ (x.1 (x.2 0 7) 2) then (f_X12_nearestTo_33 g_fuel p1 (-1 : Int32) (0 : Int32) (0 : Int32) x) else (some (Sum.inl 1))) else none)
def f_X12_needless_18  : Nat → Int32 → Int32 → CS → Option (Int32 × CS)
  | 0, _, _, _ => none
  | n + 1, l1, l2, x => if l1 ≤ l2 then (some (((0 : Int32), x))) else (if kd (x.2 0 7) = 9 then ((f_X9_word (x.2 0 7) l2 x).bind fun q7 => if kd (q7) = 10 then (if (x.1 q7 1) = 0 then ((f_X12_nearEachOther l2 l1 x).bind fun q10 => if q10.1 = 0 then (f_X12_needless_18 n l1 (l2 + (1 : Int32)) q10.2) else (some (((1 : Int32), q10.2)))) else (f_X12_needless_18 n l1 (l2 + (1 : Int32)) x)) else none) else none)
def f_X12_needless (p1 : Int32) (x : CS) : Option (Int32 × CS) :=
  if kd (x.2 0 7) = 9 then ((f_X9_word (x.2 0 7) p1 x).bind fun q2 => if kd (q2) = 10 then (if (x.1 q2 1) = 0 then (f_X12_needless_18 g_fuel p1 (0 : Int32) x) else (some (((0 : Int32), x)))) else none) else none
def f_X12_isNeedless (p1 : Int32) (x : CS) : Option (Nat ⊕ (Int32 × CS)) :=
  (f_X12_requireWord p1 x).bind fun q1 => g_sb q1 (fun _ => (f_X12_needless p1 x).bind fun q2 => if q2.1 = 0 ∨ q2.1 = 1 then (some (Sum.inr ((q2.1, q2.2)))) else none)
def f_X12_heardPitch (p1 : Int32) (x : CS) : Option (Nat ⊕ (Int32)) :=
  (f_X12_requireBeat 14 p1 x).bind fun q1 => g_sb q1 (fun _ => (f_X3_pitch 14 p1 x).bind fun q2 => some (Sum.inr (q2)))
def f_X12_requireSomeHeard (x : CS) : Option (Nat ⊕ (Unit)) :=
  if (x.1 14 1) = 0 then (some (Sum.inl 1)) else (some (Sum.inr (())))
def f_X12_distanceTo (p1 : Int32) (x : CS) : Option (Nat ⊕ (Int32)) :=
  (f_X12_requireWord p1 x).bind fun q1 => g_sb q1 (fun _ => (f_X12_requireSomeHeard x).bind fun q2 => g_sb q2 (fun _ => if kd (x.2 0 7) = 9 then ((f_X9_word (x.2 0 7) p1 x).bind fun q4 => if kd (q4) = 10 then (some (Sum.inr (x.1 q4 2))) else none) else none))
def f_X12_contourTo (p1 : Int32) (x : CS) : Option (Nat ⊕ (Int32 × CS)) :=
  (f_X12_requireWord p1 x).bind fun q1 => g_sb q1 (fun _ => (f_X12_requireSomeHeard x).bind fun q2 => g_sb q2 (fun _ => (f_X12_rowOf p1 x).bind fun q3 => if kd (q3) = 5 then (if kd (x.2 0 6) = 7 then ((f_X10_contourDistance q3 14 (x.1 (x.2 0 6) 6) x).bind fun q6 => some (Sum.inr ((q6.1, q6.2)))) else none) else none))
def f_X12_stepsTo (p1 : Int32) (x : CS) : Option (Nat ⊕ (Int32 × CS)) :=
  (f_X12_requireWord p1 x).bind fun q1 => g_sb q1 (fun _ => (f_X12_requireSomeHeard x).bind fun q2 => g_sb q2 (fun _ => (f_X12_rowOf p1 x).bind fun q3 => if kd (q3) = 5 then (if kd (x.2 0 6) = 7 then ((f_X10_fewestSteps q3 14 (x.1 (x.2 0 6) 6) x).bind fun q6 => some (Sum.inr ((q6.1, q6.2)))) else none) else none))
def f_X12_requireMeant (p1 : Int32) : Option (Nat ⊕ (Unit)) :=
  if p1 = (-1 : Int32) then (some (Sum.inl 1)) else (some (Sum.inr (())))
def f_X12_meantWord (x : CS) : Option (Nat ⊕ (Int32)) :=
  if kd (x.2 0 7) = 9 then ((f_X1_meantOf (x.2 0 7) x).bind fun q2 => (f_X12_requireMeant q2).bind fun q3 => g_sb q3 (fun _ => some (Sum.inr (q2)))) else none
def f_X12_surety (x : CS) : Option (Nat ⊕ (Int32)) :=
  if kd (x.2 0 7) = 9 then ((f_X1_meantOf (x.2 0 7) x).bind fun q2 => (f_X12_requireMeant q2).bind fun q3 => g_sb q3 (fun _ => (f_X9_closestKept (x.2 0 7) q2 x).bind fun q4 => if q4 = (-1 : Int32) then (some (Sum.inr ((-1 : Int32)))) else ((f_X9_word (x.2 0 7) q4 x).bind fun q6 => if kd (q6) = 10 then ((f_X9_word (x.2 0 7) q2 x).bind fun q8 => if kd (q8) = 10 then (some (Sum.inr ((x.1 q6 2) - (x.1 q8 2)))) else none) else none))) else none
def f_X12_hear_10 (x : CS) : Option (Nat ⊕ (Int32 × CS)) :=
  some (Sum.inl 2)
def f_X12_hear (p1 : Int32) (x : CS) : Option (Nat ⊕ (Int32 × CS)) :=
  if p1 < 0 then (f_X12_hear_10 x) else (if p1 ≤ (40 : Int32) then (if (x.1 14 1) < (24 : Int32) then ((f_X3_add 14 p1 x).bind fun q4 => if kd (q4.2 0 6) = 7 then (if kd (q4.2 0 7) = 9 then ((f_X1_measureAll (q4.2 0 6) (q4.2 0 7) q4).bind fun q7 => some (Sum.inr ((q7.1 14 1, q7)))) else none) else none) else (some (Sum.inl 1))) else (f_X12_hear_10 x))
def f_X12_hearWord_17 (x : CS) : Option (Nat ⊕ (Int32 × CS)) :=
  some (Sum.inl 2)
def f_X12_hearWord (p1 : Int32) (p2 : Int32) (x : CS) : Option (Nat ⊕ (Int32 × CS)) :=
  (f_X12_requireWord p1 x).bind fun q1 => g_sb q1 (fun _ => if p2 < (-39 : Int32) then (f_X12_hearWord_17 x) else (if p2 ≤ (39 : Int32) then ((f_X12_rowOf p1 x).bind fun q4 => if kd (q4) = 5 then ((f_X3_copyFrom 14 q4 x).bind fun q6 => (f_X3_shift 14 p2 q6).bind fun q7 => if kd (q7.2.2 0 6) = 7 then (if kd (q7.2.2 0 7) = 9 then ((f_X1_measureAll (q7.2.2 0 6) (q7.2.2 0 7) q7.2).bind fun q10 => some (Sum.inr ((q10.1 14 1, q10)))) else none) else none) else none) else (f_X12_hearWord_17 x)))
def f_X12_forget (x : CS) : Option (Int32 × CS) :=
  if kd ((g_wi x 14 1 (0 : Int32)).2 0 6) = 7 then (if kd ((g_wi x 14 1 (0 : Int32)).2 0 7) = 9 then ((f_X1_measureAll ((g_wi x 14 1 (0 : Int32)).2 0 6) ((g_wi x 14 1 (0 : Int32)).2 0 7) (g_wi x 14 1 (0 : Int32))).bind fun q3 => some ((x.1 14 1, q3))) else none) else none
def f_X12_turnPruned (p1 : Int32) (x : CS) : Option (Nat ⊕ (Int32 × CS)) :=
  (f_X12_requireWord p1 x).bind fun q1 => g_sb q1 (fun _ => if kd (x.2 0 7) = 9 then ((f_X9_word (x.2 0 7) p1 x).bind fun q3 => if kd (q3) = 10 then (if (x.1 q3 1) = 0 then (if ((g_wi x q3 1 (1 : Int32)).1 q3 1) = 0 ∨ ((g_wi x q3 1 (1 : Int32)).1 q3 1) = 1 then (some (Sum.inr (((g_wi x q3 1 (1 : Int32)).1 q3 1, g_wi x q3 1 (1 : Int32))))) else none) else (if ((g_wi x q3 1 (0 : Int32)).1 q3 1) = 0 ∨ ((g_wi x q3 1 (0 : Int32)).1 q3 1) = 1 then (some (Sum.inr (((g_wi x q3 1 (0 : Int32)).1 q3 1, g_wi x q3 1 (0 : Int32))))) else none)) else none) else none)
def f_X12_pruneNeedless_4  : Nat → Int32 → Int32 → CS → Option (Int32 × CS)
  | 0, _, _, _ => none
  | n + 1, l1, l2, x => if kd (x.2 0 7) = 9 then (if (x.1 (x.2 0 7) 2) ≤ l2 then (some ((l1, x))) else ((f_X12_needless l2 x).bind fun q3 => if q3.1 = 0 then (f_X12_pruneNeedless_4 n l1 (l2 + (1 : Int32)) q3.2) else (if kd (q3.2.2 0 7) = 9 then ((f_X9_word (q3.2.2 0 7) l2 q3.2).bind fun q6 => if kd (q6) = 10 then (f_X12_pruneNeedless_4 n (l1 + (1 : Int32)) (l2 + (1 : Int32)) (g_wi q3.2 q6 1 (1 : Int32))) else none) else none))) else none
def f_X12_pruneNeedless (x : CS) : Option (Int32 × CS) :=
  f_X12_pruneNeedless_4 g_fuel (0 : Int32) (0 : Int32) x
def f_X12_requireLessons_11  : Option (Nat ⊕ (Unit)) :=
  some (Sum.inl 2)
def f_X12_requireLessons (p1 : Int32) : Option (Nat ⊕ (Unit)) :=
  if p1 < (1 : Int32) then (f_X12_requireLessons_11) else (if p1 ≤ (20 : Int32) then (some (Sum.inr (()))) else (f_X12_requireLessons_11))
def f_X12_passLessons_8  : Nat → Int32 → Int32 → Int32 → CS → Option (Nat ⊕ (Int32 × CS))
  | 0, _, _, _, _ => none
  | n + 1, l1, l2, l3, x => if l1 ≤ l3 then (some (Sum.inr ((l2, x)))) else (if kd (x.2 0 6) = 7 then (if kd (x.2 0 7) = 9 then ((f_X1_passOne (x.2 0 6) (x.2 0 7) x).bind fun q5 => f_X12_passLessons_8 n l1 (l2 + q5.1) (l3 + (1 : Int32)) q5.2) else none) else none)
def f_X12_passLessons (p1 : Int32) (x : CS) : Option (Nat ⊕ (Int32 × CS)) :=
  (f_X12_requireLessons p1).bind fun q1 => g_sb q1 (fun _ => f_X12_passLessons_8 g_fuel p1 (0 : Int32) (0 : Int32) x)
def f_X12_keptAfter_17  : Nat → Int32 → Int32 → CS → Option (Nat ⊕ (Int32 × CS))
  | 0, _, _, _ => none
  | n + 1, l1, l2, x => if l1 ≤ l2 then (if kd (x.2 0 9) = 9 then ((f_X9_countKept (x.2 0 9) x).bind fun q7 => some (Sum.inr ((q7, x)))) else none) else (if kd (x.2 0 6) = 7 then (if kd (x.2 0 9) = 9 then ((f_X1_passOne (x.2 0 6) (x.2 0 9) x).bind fun q10 => f_X12_keptAfter_17 n l1 (l2 + (1 : Int32)) q10.2) else none) else none)
def f_X12_keptAfter (p1 : Int32) (x : CS) : Option (Nat ⊕ (Int32 × CS)) :=
  (f_X12_requireLessons p1).bind fun q1 => g_sb q1 (fun _ => if kd (x.2 0 9) = 9 then (if kd (x.2 0 7) = 9 then ((f_X9_copyFrom (x.2 0 9) (x.2 0 7) x).bind fun q4 => f_X12_keptAfter_17 g_fuel p1 (0 : Int32) q4) else none) else none)
def f_X12_lessonsUntilMeant_18  : Nat → Int32 → Int32 → CS → Option (Nat ⊕ (Int32 × CS))
  | 0, _, _, _ => none
  | n + 1, l1, l2, x => if (20 : Int32) < l2 then (some (Sum.inr (((-1 : Int32), x)))) else (if kd (x.2 0 9) = 9 then ((f_X1_meantOf (x.2 0 9) x).bind fun q7 => if q7 = l1 then (some (Sum.inr ((l2, x)))) else (if kd (x.2 0 6) = 7 then ((f_X1_passOne (x.2 0 6) (x.2 0 9) x).bind fun q10 => f_X12_lessonsUntilMeant_18 n l1 (l2 + (1 : Int32)) q10.2) else none)) else none)
def f_X12_lessonsUntilMeant (p1 : Int32) (x : CS) : Option (Nat ⊕ (Int32 × CS)) :=
  (f_X12_requireWord p1 x).bind fun q1 => g_sb q1 (fun _ => if kd (x.2 0 9) = 9 then (if kd (x.2 0 7) = 9 then ((f_X9_copyFrom (x.2 0 9) (x.2 0 7) x).bind fun q4 => f_X12_lessonsUntilMeant_18 g_fuel p1 (0 : Int32) q4) else none) else none)
def f_X12_distanceIfShifted (p1 : Int32) (p2 : Int32) (x : CS) : Option (Int32 × CS) :=
  (f_X3_copyFrom 16 14 x).bind fun q1 => (f_X3_shift 16 p2 q1).bind fun q2 => (f_X12_rowOf p1 q2.2).bind fun q3 => if kd (q3) = 5 then (if kd (q2.2.2 0 6) = 7 then ((f_X10_distance q3 16 (q2.2.1 (q2.2.2 0 6) 6) q2.2).bind fun q6 => some ((q6.1, q6.2))) else none) else none
def f_X12_bestShift_49 (k21 : Int32 → Int32 → Int32 → Int32 → CS → Option (Nat ⊕ (Int32 × CS))) (l1 : Int32) (l2 : Int32) (l3 : Int32) (l4 : Int32) (x : CS) : Option (Nat ⊕ (Int32 × CS)) :=
  (f_X12_distanceIfShifted l1 (-l4) x).bind fun q7 => if l3 ≤ q7.1 then (k21 l1 l2 l3 (l4 + (1 : Int32)) q7.2) else (k21 l1 (-l4) q7.1 (l4 + (1 : Int32)) q7.2)
def f_X12_bestShift_21  : Nat → Int32 → Int32 → Int32 → Int32 → CS → Option (Nat ⊕ (Int32 × CS))
  | 0, _, _, _, _, _ => none
  | n + 1, l1, l2, l3, l4, x => if (39 : Int32) < l4 then (some (Sum.inr ((l2, x)))) else ((f_X12_distanceIfShifted l1 l4 x).bind fun q5 => if l3 ≤ q5.1 then (f_X12_bestShift_49 (f_X12_bestShift_21 n) l1 l2 l3 l4 q5.2) else (f_X12_bestShift_49 (f_X12_bestShift_21 n) l1 l4 q5.1 l4 q5.2))
def f_X12_bestShift (p1 : Int32) (x : CS) : Option (Nat ⊕ (Int32 × CS)) :=
  (f_X12_requireWord p1 x).bind fun q1 => g_sb q1 (fun _ => (f_X12_requireSomeHeard x).bind fun q2 => g_sb q2 (fun _ => (f_X12_distanceIfShifted p1 (0 : Int32) x).bind fun q3 => f_X12_bestShift_21 g_fuel p1 (0 : Int32) q3.1 (1 : Int32) q3.2))
def f_X12_meanLength_16 (x : CS) : Nat → Int32 → Int32 → Option (UInt64)
  | 0, _, _ => none
  | n + 1, l1, l2 => if kd (x.2 0 7) = 9 then (if (x.1 (x.2 0 7) 2) ≤ l2 then (if g_nan (FP.ddiv (FP.i2d l1) (FP.i2d (x.1 (x.2 0 7) 2))) = false then (some (FP.ddiv (FP.i2d l1) (FP.i2d (x.1 (x.2 0 7) 2)))) else none) else ((f_X12_rowOf l2 x).bind fun q6 => if kd (q6) = 5 then (f_X12_meanLength_16 x n (l1 + (x.1 q6 1)) (l2 + (1 : Int32))) else none)) else none
def f_X12_meanLength (x : CS) : Option (UInt64) :=
  if kd (x.2 0 7) = 9 then (if (x.1 (x.2 0 7) 2) = 0 then (some (FP.dconst0)) else (f_X12_meanLength_16 x g_fuel (0 : Int32) (0 : Int32))) else none
def f_X12_digestOfRow_5 (x : CS) : Nat → Nat → Int64 → Int32 → Option (Int64)
  | 0, _, _, _ => none
  | n + 1, l2, l3, l5 => if (x.1 l2 1) ≤ l5 then (some (l3)) else ((f_X3_pitch l2 l5 x).bind fun q2 => f_X12_digestOfRow_5 x n l2 ((l3 * (31 : Int64)) + q2.toInt64) (l5 + (1 : Int32)))
def f_X12_digestOfRow (p1 : Int64) (p2 : Nat) (x : CS) : Option (Int64) :=
  f_X12_digestOfRow_5 x g_fuel p2 p1 (0 : Int32)
def f_X12_digestOfWord_88  : Nat → Int32 → Int64 → Int32 → CS → Option (Int64 × CS)
  | 0, _, _, _, _ => none
  | n + 1, l3, l4, l6, x => if kd (x.2 0 7) = 9 then (if (x.1 (x.2 0 7) 2) ≤ l6 then (some ((l4, x))) else ((f_X12_wordsApart l3 l6 x).bind fun q14 => f_X12_digestOfWord_88 n l3 ((l4 * (31 : Int64)) + q14.1.toInt64) (l6 + (1 : Int32)) q14.2)) else none
def f_X12_digestOfWord_69 (l3 : Int32) (s0 : Int32) (s1 : Int64) (x : CS) : Option (Int64 × CS) :=
  (f_X12_rowOf l3 x).bind fun q9 => if kd (q9) = 5 then ((f_X12_digestOfRow (s1 + s0.toInt64) q9 x).bind fun q11 => f_X12_digestOfWord_88 g_fuel l3 q11 (0 : Int32) x) else none
def f_X12_digestOfWord_46 (l3 : Int32) (s0 : Int32) (s1 : Int64) (x : CS) : Option (Int64 × CS) :=
  (f_X12_needless l3 x).bind fun q7 => if q7.1 = 0 then (f_X12_digestOfWord_69 l3 (0 : Int32) ((s1 + s0.toInt64) * (31 : Int64)) q7.2) else (f_X12_digestOfWord_69 l3 (1 : Int32) ((s1 + s0.toInt64) * (31 : Int64)) q7.2)
def f_X12_digestOfWord (p1 : Int64) (p2 : Int32) (x : CS) : Option (Int64 × CS) :=
  (f_X12_rowOf p2 x).bind fun q1 => if kd (q1) = 5 then (if kd (x.2 0 7) = 9 then ((f_X9_word (x.2 0 7) p2 x).bind fun q4 => if kd (q4) = 10 then (if (x.1 q4 1) = 0 then (f_X12_digestOfWord_46 p2 (0 : Int32) (((p1 * (31 : Int64)) + ((x.1 q1 1).toInt64)) * (31 : Int64)) x) else (f_X12_digestOfWord_46 p2 (1 : Int32) (((p1 * (31 : Int64)) + ((x.1 q1 1).toInt64)) * (31 : Int64)) x)) else none) else none) else none
def f_X12_digest_115  : Nat → Int64 → Int32 → CS → Option (Int64 × CS)
  | 0, _, _, _ => none
  | n + 1, l1, l3, x => if kd (x.2 0 7) = 9 then (if (x.1 (x.2 0 7) 2) ≤ l3 then ((f_X12_digestOfRow l1 14 x).bind fun q7 => some ((q7, x))) else ((f_X12_digestOfWord l1 l3 x).bind fun q8 => f_X12_digest_115 n q8.1 (l3 + (1 : Int32)) q8.2)) else none
def f_X12_digest (x : CS) : Option (Int64 × CS) :=
  if kd (x.2 0 7) = 9 then ((f_X9_countKept (x.2 0 7) x).bind fun q2 => if kd (x.2 0 6) = 7 then ((f_X1_meantOf (x.2 0 7) x).bind fun q4 => f_X12_digest_115 g_fuel (((((((((((((((1019 : Int64) * (31 : Int64)) + ((x.1 (x.2 0 7) 2).toInt64)) * (31 : Int64)) + q2.toInt64) * (31 : Int64)) + ((x.1 (x.2 0 6) 4).toInt64)) * (31 : Int64)) + ((x.1 (x.2 0 7) 3).toInt64)) * (31 : Int64)) + ((x.1 (x.2 0 7) 4).toInt64)) * (31 : Int64)) + ((x.1 14 1).toInt64)) * (31 : Int64)) + q4.toInt64) (0 : Int32) x) else none) else none
def f_X12_beginAnew (x : CS) : Option (CS) :=
  if kd (x.2 0 6) = 7 then (if kd (x.2 0 8) = 7 then (if kd ((g_wr (g_wr x 0 6 (x.2 0 8)) 0 8 (x.2 0 6)).2 0 7) = 9 then (if kd ((g_wr (g_wr x 0 6 (x.2 0 8)) 0 8 (x.2 0 6)).2 0 9) = 9 then (some (g_wi (g_wr (g_wr (g_wr (g_wr x 0 6 (x.2 0 8)) 0 8 (x.2 0 6)) 0 7 ((g_wr (g_wr x 0 6 (x.2 0 8)) 0 8 (x.2 0 6)).2 0 9)) 0 9 ((g_wr (g_wr x 0 6 (x.2 0 8)) 0 8 (x.2 0 6)).2 0 7)) 14 1 (0 : Int32))) else none) else none) else none) else none
def f_X13_begin_24  : Nat → Nat → Int32 → MS → Option (MS)
  | 0, _, _, _ => none
  | n + 1, l0, l2, y => if (8 : Int32) ≤ l2 then (if g_ok (8 : Int32) 10 = true then (some (g_mi (g_mi (g_mi y (l0 + 1) (8 : Int32).toNatClampNeg (0 : Int32)) l0 3 (0 : Int32)) l0 4 (0 : Int32))) else none) else (if g_ok l2 8 = true then (f_X13_begin_24 n l0 (l2 + (1 : Int32)) (g_mi y (l0 + 3) l2.toNatClampNeg (0 : Int32))) else none)
def f_X13_begin (t : Nat) (p1 : Nat) (y : MS) : Option (MS) :=
  f_X13_begin_24 g_fuel t (0 : Int32) (g_cp (g_cp y (p1 + 1) (t + 1) 10) (p1 + 2) (t + 2) 240)
def f_X13_become (t : Nat) (p1 : Nat) (y : MS) : Option (MS) :=
  some (g_mi (g_mi (g_cp (g_cp (g_cp y (p1 + 1) (t + 1) 10) (p1 + 2) (t + 2) 240) (p1 + 3) (t + 3) 8) t 3 ((g_cp (g_cp (g_cp y (p1 + 1) (t + 1) 10) (p1 + 2) (t + 2) 240) (p1 + 3) (t + 3) 8) p1 3)) t 4 ((g_mi (g_cp (g_cp (g_cp y (p1 + 1) (t + 1) 10) (p1 + 2) (t + 2) 240) (p1 + 3) (t + 3) 8) t 3 ((g_cp (g_cp (g_cp y (p1 + 1) (t + 1) 10) (p1 + 2) (t + 2) 240) (p1 + 3) (t + 3) 8) p1 3)) p1 4))
def f_X14_begin (t : Nat) (y : MS) : Option (MS) :=
  some (g_mi (g_mi (g_mi (g_mi (g_mi y t 0 (4 : Int32)) t 1 (6 : Int32)) t 2 (0 : Int32)) t 5 (0 : Int32)) t 12 (0 : Int32))
def f_X14_become (t : Nat) (p1 : Nat) (y : MS) : Option (MS) :=
  some (g_cp (g_cp (g_cp (g_cp (g_cp (g_cp (g_cp (g_cp (g_cp (g_cp (g_cp (g_mi (g_mi (g_mi (g_mi (g_mi y t 0 (y p1 0)) t 1 ((g_mi y t 0 (y p1 0)) p1 1)) t 2 ((g_mi (g_mi y t 0 (y p1 0)) t 1 ((g_mi y t 0 (y p1 0)) p1 1)) p1 2)) t 5 ((g_mi (g_mi (g_mi y t 0 (y p1 0)) t 1 ((g_mi y t 0 (y p1 0)) p1 1)) t 2 ((g_mi (g_mi y t 0 (y p1 0)) t 1 ((g_mi y t 0 (y p1 0)) p1 1)) p1 2)) p1 5)) t 12 ((g_mi (g_mi (g_mi (g_mi y t 0 (y p1 0)) t 1 ((g_mi y t 0 (y p1 0)) p1 1)) t 2 ((g_mi (g_mi y t 0 (y p1 0)) t 1 ((g_mi y t 0 (y p1 0)) p1 1)) p1 2)) t 5 ((g_mi (g_mi (g_mi y t 0 (y p1 0)) t 1 ((g_mi y t 0 (y p1 0)) p1 1)) t 2 ((g_mi (g_mi y t 0 (y p1 0)) t 1 ((g_mi y t 0 (y p1 0)) p1 1)) p1 2)) p1 5)) p1 12)) (p1 + 1) (t + 1) 10) (p1 + 2) (t + 2) 240) (p1 + 3) (t + 3) 17) (p1 + 4) (t + 4) 17) (p1 + 5) (t + 5) 17) (p1 + 6) (t + 6) 17) (p1 + 7) (t + 7) 17) (p1 + 8) (t + 8) 17) (p1 + 9) (t + 9) 800) (p1 + 10) (t + 10) 800) (p1 + 11) (t + 11) 800)
def f_X15_thrown (y : MS) : Option (Int32) :=
  some (y 120 0)
def f_X15_no (p1 : Int32) (y : MS) : Option (Int32 × MS) :=
  some (((0 : Int32), g_mi y 120 0 p1))
def f_X15_isNot (p1 : Int32) (y : MS) : Option (Int32 × MS) :=
  some (((0 : Int32), g_mi y 120 0 p1))
def f_X15_ok (p1 : Int32) (y : MS) : Option (Int32 × MS) :=
  some ((p1, g_mi y 120 0 (0 : Int32)))
def f_X15_isIn (p1 : Int32) (p2 : Int32) (p3 : Int32) : Option (Int32) :=
  if p1 < p2 then (some ((0 : Int32))) else (if p3 < p1 then (some ((0 : Int32))) else (some ((1 : Int32))))
def f_X15_isLetter (p1 : Int32) : Option (Int32) :=
  (f_X15_isIn p1 (97 : Int32) (122 : Int32)).bind fun q1 => if q1 = 0 ∨ q1 = 1 then (some (q1)) else none
def f_X15_isDigit (p1 : Int32) : Option (Int32) :=
  (f_X15_isIn p1 (48 : Int32) (57 : Int32)).bind fun q1 => if q1 = 0 ∨ q1 = 1 then (some (q1)) else none
def f_X15_byteAt (p1 : Int32) (y : MS) : Option (Int32) :=
  if (y 120 2) ≤ p1 then (some ((-1 : Int32))) else (if g_ok p1 2000 = true then (some (y 121 p1.toNatClampNeg)) else none)
def f_X15_isWord_13 (y : MS) : Nat → Int32 → Int32 → Nat → Int32 → Option (Int32)
  | 0, _, _, _, _ => none
  | n + 1, l1, l2, l3, l4 => if l2 ≤ l4 then (some ((1 : Int32))) else (if l3 < 72 then ((f_J0_charAt_5068e l3 l4).bind fun q5 => if g_ok (l1 + l4) 2000 = true then (if q5 = (y 121 (l1 + l4).toNatClampNeg) then (f_X15_isWord_13 y n l1 l2 l3 (l4 + (1 : Int32))) else (some ((0 : Int32)))) else none) else none)
def f_X15_isWord (p1 : Int32) (p2 : Int32) (p3 : Nat) (y : MS) : Option (Int32) :=
  if p3 < 72 then ((f_J0_length_8abf5 p3).bind fun q1 => if q1 = p2 then (f_X15_isWord_13 y g_fuel p1 p2 p3 (0 : Int32)) else (some ((0 : Int32)))) else none
def f_X15_keyword_2 (y : MS) : Nat → Int32 → Int32 → Int32 → Option (Int32)
  | 0, _, _, _ => none
  | n + 1, l1, l2, l3 => if (26 : Int32) ≤ l3 then (if l2 ≤ (10 : Int32) then (some ((30 : Int32))) else (some ((32 : Int32)))) else (if g_ok l3 26 = true then ((f_X15_isWord l1 l2 (46 + l3.toNatClampNeg) y).bind fun q4 => if q4 = 0 then (f_X15_keyword_2 y n l1 l2 (l3 + (1 : Int32))) else (some (l3))) else none)
def f_X15_keyword (p1 : Int32) (p2 : Int32) (y : MS) : Option (Int32) :=
  f_X15_keyword_2 y g_fuel p1 p2 (0 : Int32)
def f_X15_symbol (p1 : Int32) : Option (Int32) :=
  if p1 = (40 : Int32) then (some ((49 : Int32))) else (if p1 = (41 : Int32) then (some ((50 : Int32))) else (if p1 = (42 : Int32) then (some ((42 : Int32))) else (if p1 = (43 : Int32) then (some ((40 : Int32))) else (if p1 = (44 : Int32) then (some ((54 : Int32))) else (if p1 = (45 : Int32) then (some ((41 : Int32))) else (if p1 = (46 : Int32) then (some ((32 : Int32))) else (if p1 = (47 : Int32) then (some ((43 : Int32))) else (if p1 = (48 : Int32) then (some ((32 : Int32))) else (if p1 = (49 : Int32) then (some ((32 : Int32))) else (if p1 = (50 : Int32) then (some ((32 : Int32))) else (if p1 = (51 : Int32) then (some ((32 : Int32))) else (if p1 = (52 : Int32) then (some ((32 : Int32))) else (if p1 = (53 : Int32) then (some ((32 : Int32))) else (if p1 = (54 : Int32) then (some ((32 : Int32))) else (if p1 = (55 : Int32) then (some ((32 : Int32))) else (if p1 = (56 : Int32) then (some ((32 : Int32))) else (if p1 = (57 : Int32) then (some ((32 : Int32))) else (if p1 = (58 : Int32) then (some ((32 : Int32))) else (if p1 = (59 : Int32) then (some ((53 : Int32))) else (if p1 = (60 : Int32) then (some ((44 : Int32))) else (if p1 = (61 : Int32) then (some ((46 : Int32))) else (if p1 = (62 : Int32) then (some ((45 : Int32))) else (if p1 = (63 : Int32) then (some ((32 : Int32))) else (if p1 = (64 : Int32) then (some ((32 : Int32))) else (if p1 = (65 : Int32) then (some ((32 : Int32))) else (if p1 = (66 : Int32) then (some ((32 : Int32))) else (if p1 = (67 : Int32) then (some ((32 : Int32))) else (if p1 = (68 : Int32) then (some ((32 : Int32))) else (if p1 = (69 : Int32) then (some ((32 : Int32))) else (if p1 = (70 : Int32) then (some ((32 : Int32))) else (if p1 = (71 : Int32) then (some ((32 : Int32))) else (if p1 = (72 : Int32) then (some ((32 : Int32))) else (if p1 = (73 : Int32) then (some ((32 : Int32))) else (if p1 = (74 : Int32) then (some ((32 : Int32))) else (if p1 = (75 : Int32) then (some ((32 : Int32))) else (if p1 = (76 : Int32) then (some ((32 : Int32))) else (if p1 = (77 : Int32) then (some ((32 : Int32))) else (if p1 = (78 : Int32) then (some ((32 : Int32))) else (if p1 = (79 : Int32) then (some ((32 : Int32))) else (if p1 = (80 : Int32) then (some ((32 : Int32))) else (if p1 = (81 : Int32) then (some ((32 : Int32))) else (if p1 = (82 : Int32) then (some ((32 : Int32))) else (if p1 = (83 : Int32) then (some ((32 : Int32))) else (if p1 = (84 : Int32) then (some ((32 : Int32))) else (if p1 = (85 : Int32) then (some ((32 : Int32))) else (if p1 = (86 : Int32) then (some ((32 : Int32))) else (if p1 = (87 : Int32) then (some ((32 : Int32))) else (if p1 = (88 : Int32) then (some ((32 : Int32))) else (if p1 = (89 : Int32) then (some ((32 : Int32))) else (if p1 = (90 : Int32) then (some ((32 : Int32))) else (if p1 = (91 : Int32) then (some ((51 : Int32))) else (if p1 = (92 : Int32) then (some ((32 : Int32))) else (if p1 = (93 : Int32) then (some ((52 : Int32))) else (some ((32 : Int32))))))))))))))))))))))))))))))))))))))))))))))))))))))))
def f_X15_read_239 (l1 : Int32) (l2 : Int32) (l4 : Int32) (y : MS) : Option (Int32 × MS) :=
  if g_ok l2 402 = true then (some ((l4, g_mi y 125 l2.toNatClampNeg (l4 - l1)))) else none
def f_X15_read_235 (l1 : Int32) (l2 : Int32) (l4 : Int32) (s0 : Int32) (s1 : Int32) (y : MS) : Option (Int32 × MS) :=
  if g_ok s1 402 = true then (f_X15_read_239 l1 l2 (l4 + (1 : Int32)) (g_mi y 122 s1.toNatClampNeg s0)) else none
def f_X15_read_201 (l1 : Int32) (l2 : Int32) (l4 : Int32) (y : MS) : Option (Int32 × MS) :=
  (f_X15_byteAt l4 y).bind fun q13 => if q13 = (61 : Int32) then (if g_ok l2 402 = true then (if (y 122 l2.toNatClampNeg) = (44 : Int32) then (f_X15_read_235 l1 l2 l4 (47 : Int32) l2 y) else (f_X15_read_235 l1 l2 l4 (48 : Int32) l2 y)) else none) else (f_X15_read_239 l1 l2 l4 y)
def f_X15_read_165 (l1 : Int32) (l2 : Int32) (l4 : Int32) (s0 : Int32) (s1 : Int32) (y : MS) : Option (Int32 × MS) :=
  if g_ok s1 402 = true then (f_X15_read_239 l1 l2 l4 (g_mi y 122 s1.toNatClampNeg s0)) else none
def f_X15_read_87  : Nat → Int32 → Int32 → Int32 → Int32 → MS → Option (Int32 × MS)
  | 0, _, _, _, _, _ => none
  | n + 1, l1, l2, l4, l5, y => (f_X15_byteAt l4 y).bind fun q18 => (f_X15_isDigit q18).bind fun q19 => if q19 = 0 then (if g_ok l2 402 = true then (if (l4 - l1) ≤ (6 : Int32) then (f_X15_read_165 l1 l2 l4 (31 : Int32) l2 (g_mi y 123 l2.toNatClampNeg l5)) else (f_X15_read_165 l1 l2 l4 (32 : Int32) l2 (g_mi y 123 l2.toNatClampNeg l5))) else none) else (if (7 : Int32) ≤ (l4 - l1) then (f_X15_read_87 n l1 l2 (l4 + (1 : Int32)) l5 y) else ((f_X15_byteAt l4 y).bind fun q24 => f_X15_read_87 n l1 l2 (l4 + (1 : Int32)) ((((10 : Int32) * l5) + q24) - (48 : Int32)) y))
def f_X15_read_26  : Nat → Int32 → Int32 → Int32 → MS → Option (Int32 × MS)
  | 0, _, _, _, _ => none
  | n + 1, l1, l2, l4, y => (f_X15_byteAt l4 y).bind fun q25 => (f_X15_isLetter q25).bind fun q26 => if q26 = 0 then ((f_X15_byteAt l4 y).bind fun q28 => (f_X15_isDigit q28).bind fun q29 => if q29 = 0 then ((f_X15_keyword l1 (l4 - l1) y).bind fun q31 => if g_ok l2 402 = true then (f_X15_read_239 l1 l2 l4 (g_mi y 122 l2.toNatClampNeg q31)) else none) else (f_X15_read_26 n l1 l2 (l4 + (1 : Int32)) y)) else (f_X15_read_26 n l1 l2 (l4 + (1 : Int32)) y)
def f_X15_read (p1 : Int32) (p2 : Int32) (y : MS) : Option (Int32 × MS) :=
  if g_ok p1 2000 = true then (if g_ok p2 402 = true then ((f_X15_isLetter (y 121 p1.toNatClampNeg)).bind fun q3 => if q3 = 0 then ((f_X15_isDigit (y 121 p1.toNatClampNeg)).bind fun q5 => if q5 = 0 then ((f_X15_symbol (y 121 p1.toNatClampNeg)).bind fun q7 => if g_ok p2 402 = true then (if g_ok p2 402 = true then (if ((g_mi (g_mi y 124 p2.toNatClampNeg p1) 122 p2.toNatClampNeg q7) 122 p2.toNatClampNeg) = (44 : Int32) then (f_X15_read_201 p1 p2 (p1 + (1 : Int32)) (g_mi (g_mi y 124 p2.toNatClampNeg p1) 122 p2.toNatClampNeg q7)) else (if g_ok p2 402 = true then (if ((g_mi (g_mi y 124 p2.toNatClampNeg p1) 122 p2.toNatClampNeg q7) 122 p2.toNatClampNeg) = (45 : Int32) then (f_X15_read_201 p1 p2 (p1 + (1 : Int32)) (g_mi (g_mi y 124 p2.toNatClampNeg p1) 122 p2.toNatClampNeg q7)) else (f_X15_read_239 p1 p2 (p1 + (1 : Int32)) (g_mi (g_mi y 124 p2.toNatClampNeg p1) 122 p2.toNatClampNeg q7))) else none)) else none) else none) else (f_X15_read_87 g_fuel p1 p2 (p1 + (1 : Int32)) ((y 121 p1.toNatClampNeg) - (48 : Int32)) (g_mi y 124 p2.toNatClampNeg p1))) else (f_X15_read_26 g_fuel p1 p2 (p1 + (1 : Int32)) (g_mi y 124 p2.toNatClampNeg p1))) else none) else none
def f_X15_skip_2 (y : MS) : Nat → Int32 → Option (Int32)
  | 0, _ => none
  | n + 1, l2 => (f_X15_byteAt l2 y).bind fun q1 => if q1 = (32 : Int32) then (f_X15_skip_2 y n (l2 + (1 : Int32))) else ((f_X15_byteAt l2 y).bind fun q3 => if q3 = (10 : Int32) then (f_X15_skip_2 y n (l2 + (1 : Int32))) else (some (l2)))
def f_X15_skip (p1 : Int32) (y : MS) : Option (Int32) :=
  f_X15_skip_2 y g_fuel p1
def f_X15_readAll_65 (l2 : Int32) (y : MS) : Option (MS) :=
  if g_ok l2 402 = true then (if g_ok l2 402 = true then (some (g_mi (g_mi y 122 l2.toNatClampNeg (33 : Int32)) 124 l2.toNatClampNeg ((g_mi y 122 l2.toNatClampNeg (33 : Int32)) 120 2))) else none) else none
def f_X15_readAll_33 (k8 : Int32 → Int32 → MS → Option (MS)) (l1 : Int32) (l2 : Int32) (y : MS) : Option (MS) :=
  (f_X15_read l1 l2 y).bind fun q8 => (f_X15_skip q8.1 q8.2).bind fun q9 => if l2 = (400 : Int32) then (if g_ok l2 402 = true then (k8 q9 (l2 + (1 : Int32)) (g_mi q8.2 122 l2.toNatClampNeg (32 : Int32))) else none) else (k8 q9 (l2 + (1 : Int32)) q8.2)
def f_X15_readAll_8  : Nat → Int32 → Int32 → MS → Option (MS)
  | 0, _, _, _ => none
  | n + 1, l1, l2, y => if (y 120 2) ≤ l1 then (f_X15_readAll_65 l2 y) else (if l2 = 0 then (f_X15_readAll_33 (f_X15_readAll_8 n) l1 l2 y) else (if g_ok (l2 - (1 : Int32)) 402 = true then (if (y 122 (l2 - (1 : Int32)).toNatClampNeg) = (32 : Int32) then (f_X15_readAll_65 l2 y) else (f_X15_readAll_33 (f_X15_readAll_8 n) l1 l2 y)) else none))
def f_X15_readAll (y : MS) : Option (MS) :=
  (f_X15_skip (0 : Int32) y).bind fun q1 => f_X15_readAll_8 g_fuel q1 (0 : Int32) y
def f_X15_is (p1 : Int32) (y : MS) : Option (Int32) :=
  if (y 120 9) = 0 then (if g_ok (y 120 8) 402 = true then (if (y 122 (y 120 8).toNatClampNeg) = p1 then (some ((1 : Int32))) else (some ((0 : Int32)))) else none) else (some ((0 : Int32)))
def f_X15_wrong (y : MS) : Option (MS) :=
  if (y 120 9) = 0 then (some (g_mi (g_mi (g_mi y 120 9 (1 : Int32)) 120 10 (1 : Int32)) 120 11 ((g_mi (g_mi y 120 9 (1 : Int32)) 120 10 (1 : Int32)) 120 8))) else (some (y))
def f_X15_take (p1 : Int32) (y : MS) : Option (MS) :=
  (f_X15_is p1 y).bind fun q1 => if q1 = 0 then ((f_X15_wrong y).bind fun q3 => some (q3)) else (some (g_mi y 120 8 ((y 120 8) + (1 : Int32))))
def f_X15_takes (p1 : Int32) (y : MS) : Option (Int32 × MS) :=
  (f_X15_is p1 y).bind fun q1 => if q1 = 0 then (some (((0 : Int32), y))) else (some (((1 : Int32), g_mi y 120 8 ((y 120 8) + (1 : Int32)))))
def f_X15_deeper (y : MS) : Option (MS) :=
  if (y 120 12) = (8 : Int32) then ((f_X15_wrong y).bind fun q2 => some (g_mi q2 120 12 ((q2 120 12) + (1 : Int32)))) else (some (g_mi (g_mi y 120 8 ((y 120 8) + (1 : Int32))) 120 12 (((g_mi y 120 8 ((y 120 8) + (1 : Int32))) 120 12) + (1 : Int32))))
def f_X15_mark (p1 : Int32) (y : MS) : Option (MS) :=
  if (y 120 9) = 0 then (if (y 120 10) = 0 then (some (g_mi (g_mi y 120 10 p1) 120 11 ((g_mi y 120 10 p1) 120 8))) else (some (y))) else (some (y))
def f_X15_node (p1 : Int32) (p2 : Int32) (p3 : Int32) (y : MS) : Option (Int32 × MS) :=
  if g_ok (y 139 12) 800 = true then (if g_ok (y 139 12) 800 = true then (if g_ok (y 139 12) 800 = true then (some ((y 139 12, g_mi (g_mi (g_mi (g_mi y 148 (y 139 12).toNatClampNeg p1) 149 (y 139 12).toNatClampNeg p2) 150 (y 139 12).toNatClampNeg p3) 139 12 (((g_mi (g_mi (g_mi y 148 (y 139 12).toNatClampNeg p1) 149 (y 139 12).toNatClampNeg p2) 150 (y 139 12).toNatClampNeg p3) 139 12) + (1 : Int32))))) else none) else none) else none
def f_X15_isSameName_19 (y : MS) : Nat → Int32 → Int32 → Int32 → Option (Int32)
  | 0, _, _, _ => none
  | n + 1, l1, l2, l3 => if g_ok l1 402 = true then (if (y 125 l1.toNatClampNeg) ≤ l3 then (some ((1 : Int32))) else (if g_ok l1 402 = true then (if g_ok ((y 124 l1.toNatClampNeg) + l3) 2000 = true then (if g_ok l2 402 = true then (if g_ok ((y 124 l2.toNatClampNeg) + l3) 2000 = true then (if (y 121 ((y 124 l1.toNatClampNeg) + l3).toNatClampNeg) = (y 121 ((y 124 l2.toNatClampNeg) + l3).toNatClampNeg) then (f_X15_isSameName_19 y n l1 l2 (l3 + (1 : Int32))) else (some ((0 : Int32)))) else none) else none) else none) else none)) else none
def f_X15_isSameName (p1 : Int32) (p2 : Int32) (y : MS) : Option (Int32) :=
  if g_ok p1 402 = true then (if g_ok p2 402 = true then (if (y 125 p1.toNatClampNeg) = (y 125 p2.toNatClampNeg) then (f_X15_isSameName_19 y g_fuel p1 p2 (0 : Int32)) else (some ((0 : Int32)))) else none) else none
def f_X15_known_2 (y : MS) : Nat → Int32 → Option (Int32)
  | 0, _ => none
  | n + 1, l1 => if (y 139 2) ≤ l1 then (some ((-1 : Int32))) else (if g_ok l1 8 = true then ((f_X15_isSameName (y 126 l1.toNatClampNeg) (y 120 8) y).bind fun q3 => if q3 = 0 then (f_X15_known_2 y n (l1 + (1 : Int32))) else (some (l1))) else none)
def f_X15_known (y : MS) : Option (Int32) :=
  f_X15_known_2 y g_fuel (0 : Int32)
def f_X15_name_28 (l1 : Int32) (y : MS) : Option (Int32 × MS) :=
  (f_X15_take (30 : Int32) y).bind fun q6 => some ((g_max (0 : Int32) l1, q6))
def f_X15_name_17 (s0 : Int32) (y : MS) : Option (Int32 × MS) :=
  if s0 = (-1 : Int32) then ((f_X15_mark (3 : Int32) y).bind fun q5 => f_X15_name_28 s0 q5) else (f_X15_name_28 s0 y)
def f_X15_name (y : MS) : Option (Int32 × MS) :=
  (f_X15_is (30 : Int32) y).bind fun q1 => if q1 = 0 then (f_X15_name_17 (0 : Int32) y) else ((f_X15_known y).bind fun q3 => f_X15_name_17 q3 y)
def f_X15_product_23 (val : MS → Option (Int32 × MS)) (k5 : Int32 → MS → Option (Int32 × MS)) (l1 : Int32) (y : MS) : Option (Int32 × MS) :=
  if g_ok (y 120 8) 402 = true then ((val (g_mi y 120 8 ((y 120 8) + (1 : Int32)))).bind fun q7 => (f_X15_node (y 122 (y 120 8).toNatClampNeg) l1 q7.1 q7.2).bind fun q8 => k5 q8.1 q8.2) else none
def f_X15_product_5 (val : MS → Option (Int32 × MS)) : Nat → Int32 → MS → Option (Int32 × MS)
  | 0, _, _ => none
  | n + 1, l1, y => (f_X15_is (42 : Int32) y).bind fun q2 => if q2 = 0 then ((f_X15_is (43 : Int32) y).bind fun q4 => if q4 = 0 then (some ((l1, y))) else (f_X15_product_23 val (f_X15_product_5 val n) l1 y)) else (f_X15_product_23 val (f_X15_product_5 val n) l1 y)
def f_X15_product (val : MS → Option (Int32 × MS)) (y : MS) : Option (Int32 × MS) :=
  (val y).bind fun q1 => f_X15_product_5 val g_fuel q1.1 q1.2
def f_X15_sum_23 (val : MS → Option (Int32 × MS)) (k5 : Int32 → MS → Option (Int32 × MS)) (l1 : Int32) (y : MS) : Option (Int32 × MS) :=
  if g_ok (y 120 8) 402 = true then ((f_X15_product val (g_mi y 120 8 ((y 120 8) + (1 : Int32)))).bind fun q7 => (f_X15_node (y 122 (y 120 8).toNatClampNeg) l1 q7.1 q7.2).bind fun q8 => k5 q8.1 q8.2) else none
def f_X15_sum_5 (val : MS → Option (Int32 × MS)) : Nat → Int32 → MS → Option (Int32 × MS)
  | 0, _, _ => none
  | n + 1, l1, y => (f_X15_is (40 : Int32) y).bind fun q2 => if q2 = 0 then ((f_X15_is (41 : Int32) y).bind fun q4 => if q4 = 0 then (some ((l1, y))) else (f_X15_sum_23 val (f_X15_sum_5 val n) l1 y)) else (f_X15_sum_23 val (f_X15_sum_5 val n) l1 y)
def f_X15_sum (val : MS → Option (Int32 × MS)) (y : MS) : Option (Int32 × MS) :=
  (f_X15_product val y).bind fun q1 => f_X15_sum_5 val g_fuel q1.1 q1.2
def f_X15_inBrackets (val : MS → Option (Int32 × MS)) (y : MS) : Option (Int32 × MS) :=
  (f_X15_deeper y).bind fun q1 => (f_X15_sum val q1).bind fun q2 => (f_X15_take (50 : Int32) q2.2).bind fun q3 => some ((q2.1, g_mi q3 120 12 ((q3 120 12) - (1 : Int32))))
def f_X15_ofTwo (val : MS → Option (Int32 × MS)) (p1 : Int32) (y : MS) : Option (Int32 × MS) :=
  (f_X15_is (49 : Int32) (g_mi y 120 8 ((y 120 8) + (1 : Int32)))).bind fun q1 => if q1 = 0 then ((f_X15_wrong (g_mi y 120 8 ((y 120 8) + (1 : Int32)))).bind fun q9 => some (((0 : Int32), q9))) else ((f_X15_deeper (g_mi y 120 8 ((y 120 8) + (1 : Int32)))).bind fun q3 => (f_X15_sum val q3).bind fun q4 => (f_X15_take (54 : Int32) q4.2).bind fun q5 => (f_X15_sum val q5).bind fun q6 => (f_X15_take (50 : Int32) q6.2).bind fun q7 => (f_X15_node p1 q4.1 q6.1 (g_mi q7 120 12 ((q7 120 12) - (1 : Int32)))).bind fun q8 => some ((q8.1, q8.2)))
def f_X15_value_157 (val : MS → Option (Int32 × MS)) (y : MS) : Option (Int32 × MS) :=
  if g_ok (y 120 8) 402 = true then ((f_X15_ofTwo val (y 122 (y 120 8).toNatClampNeg) y).bind fun q33 => some ((q33.1, q33.2))) else none
def f_X15_value_102 (val : MS → Option (Int32 × MS)) (y : MS) : Option (Int32 × MS) :=
  if g_ok (y 120 8) 402 = true then ((f_X15_take (18 : Int32) (g_mi y 120 8 ((y 120 8) + (1 : Int32)))).bind fun q29 => (f_X15_name q29).bind fun q30 => (f_X15_node (y 122 (y 120 8).toNatClampNeg) q30.1 (0 : Int32) q30.2).bind fun q31 => some ((q31.1, q31.2))) else none
def f_X15_value_56 (val : MS → Option (Int32 × MS)) (y : MS) : Option (Int32 × MS) :=
  if g_ok (((g_mi y 120 8 ((y 120 8) + (1 : Int32))) 120 8) - (1 : Int32)) 402 = true then ((f_X15_node ((g_mi y 120 8 ((y 120 8) + (1 : Int32))) 122 (((g_mi y 120 8 ((y 120 8) + (1 : Int32))) 120 8) - (1 : Int32)).toNatClampNeg) (0 : Int32) (0 : Int32) (g_mi y 120 8 ((y 120 8) + (1 : Int32)))).bind fun q27 => some ((q27.1, q27.2))) else none
def f_X15_value : Nat → MS → Option (Int32 × MS)
  | 0, _ => none
  | n + 1, y => (f_X15_is (31 : Int32) y).bind fun q1 => if q1 = 0 then ((f_X15_is (14 : Int32) y).bind fun q3 => if q3 = 0 then ((f_X15_is (15 : Int32) y).bind fun q5 => if q5 = 0 then ((f_X15_is (16 : Int32) y).bind fun q7 => if q7 = 0 then ((f_X15_is (17 : Int32) y).bind fun q9 => if q9 = 0 then ((f_X15_is (24 : Int32) y).bind fun q11 => if q11 = 0 then ((f_X15_is (25 : Int32) y).bind fun q13 => if q13 = 0 then ((f_X15_is (49 : Int32) y).bind fun q15 => if q15 = 0 then ((f_X15_is (41 : Int32) y).bind fun q17 => if q17 = 0 then ((f_X15_wrong y).bind fun q22 => some (((0 : Int32), q22))) else ((f_X15_deeper y).bind fun q19 => (f_X15_value n q19).bind fun q20 => (f_X15_node (60 : Int32) q20.1 (0 : Int32) (g_mi q20.2 120 12 ((q20.2 120 12) - (1 : Int32)))).bind fun q21 => some ((q21.1, q21.2)))) else ((f_X15_inBrackets (f_X15_value n) y).bind fun q23 => some ((q23.1, q23.2)))) else (f_X15_value_157 (f_X15_value n) y)) else (f_X15_value_157 (f_X15_value n) y)) else (f_X15_value_102 (f_X15_value n) y)) else (f_X15_value_102 (f_X15_value n) y)) else (f_X15_value_56 (f_X15_value n) y)) else (f_X15_value_56 (f_X15_value n) y)) else (if g_ok (((g_mi y 120 8 ((y 120 8) + (1 : Int32))) 120 8) - (1 : Int32)) 402 = true then ((f_X15_node (31 : Int32) ((g_mi y 120 8 ((y 120 8) + (1 : Int32))) 123 (((g_mi y 120 8 ((y 120 8) + (1 : Int32))) 120 8) - (1 : Int32)).toNatClampNeg) (0 : Int32) (g_mi y 120 8 ((y 120 8) + (1 : Int32)))).bind fun q25 => some ((q25.1, q25.2))) else none)
def f_X15_comparison_33 (y : MS) : Option (Int32 × MS) :=
  (f_X15_wrong y).bind fun q8 => some (((0 : Int32), q8))
def f_X15_comparison (y : MS) : Option (Int32 × MS) :=
  (f_X15_sum (f_X15_value 12) y).bind fun q1 => if g_ok (q1.2 120 8) 402 = true then (if (q1.2 120 9) = 0 then ((f_X15_isIn (q1.2 122 (q1.2 120 8).toNatClampNeg) (44 : Int32) (48 : Int32)).bind fun q4 => if q4 = 0 then (f_X15_comparison_33 q1.2) else ((f_X15_sum (f_X15_value 12) (g_mi q1.2 120 8 ((q1.2 120 8) + (1 : Int32)))).bind fun q6 => (f_X15_node (q1.2 122 (q1.2 120 8).toNatClampNeg) q1.1 q6.1 q6.2).bind fun q7 => some ((q7.1, q7.2)))) else (f_X15_comparison_33 q1.2)) else none
def f_X15_both_5 (sgl : MS → Option (Int32 × MS)) : Nat → Int32 → MS → Option (Int32 × MS)
  | 0, _, _ => none
  | n + 1, l1, y => (f_X15_takes (22 : Int32) y).bind fun q2 => if q2.1 = 0 then (some ((l1, q2.2))) else ((sgl q2.2).bind fun q4 => (f_X15_node (22 : Int32) l1 q4.1 q4.2).bind fun q5 => f_X15_both_5 sgl n q5.1 q5.2)
def f_X15_both (sgl : MS → Option (Int32 × MS)) (y : MS) : Option (Int32 × MS) :=
  (sgl y).bind fun q1 => f_X15_both_5 sgl g_fuel q1.1 q1.2
def f_X15_test_5 (sgl : MS → Option (Int32 × MS)) : Nat → Int32 → MS → Option (Int32 × MS)
  | 0, _, _ => none
  | n + 1, l1, y => (f_X15_takes (23 : Int32) y).bind fun q2 => if q2.1 = 0 then (some ((l1, q2.2))) else ((f_X15_both sgl q2.2).bind fun q4 => (f_X15_node (23 : Int32) l1 q4.1 q4.2).bind fun q5 => f_X15_test_5 sgl n q5.1 q5.2)
def f_X15_test (sgl : MS → Option (Int32 × MS)) (y : MS) : Option (Int32 × MS) :=
  (f_X15_both sgl y).bind fun q1 => f_X15_test_5 sgl g_fuel q1.1 q1.2
def f_X15_single : Nat → MS → Option (Int32 × MS)
  | 0, _ => none
  | n + 1, y => (f_X15_is (21 : Int32) y).bind fun q1 => if q1 = 0 then ((f_X15_is (51 : Int32) y).bind fun q3 => if q3 = 0 then ((f_X15_takes (19 : Int32) y).bind fun q5 => if q5.1 = 0 then ((f_X15_takes (20 : Int32) q5.2).bind fun q7 => if q7.1 = 0 then ((f_X15_comparison q7.2).bind fun q9 => some ((q9.1, q9.2))) else ((f_X15_name q7.2).bind fun q10 => (f_X15_node (20 : Int32) q10.1 (0 : Int32) q10.2).bind fun q11 => some ((q11.1, q11.2)))) else ((f_X15_name q5.2).bind fun q12 => (f_X15_node (19 : Int32) q12.1 (0 : Int32) q12.2).bind fun q13 => some ((q13.1, q13.2)))) else ((f_X15_deeper y).bind fun q14 => (f_X15_test (f_X15_single n) q14).bind fun q15 => (f_X15_take (52 : Int32) q15.2).bind fun q16 => some ((q15.1, g_mi q16 120 12 ((q16 120 12) - (1 : Int32)))))) else ((f_X15_deeper y).bind fun q17 => (f_X15_single n q17).bind fun q18 => (f_X15_node (21 : Int32) q18.1 (0 : Int32) (g_mi q18.2 120 12 ((q18.2 120 12) - (1 : Int32)))).bind fun q19 => some ((q19.1, q19.2)))
def f_X15_numberIn_33 (l3 : Int32) (y : MS) : Option (Int32 × MS) :=
  (f_X15_take (31 : Int32) y).bind fun q7 => some ((l3, q7))
def f_X15_numberIn (p1 : Int32) (p2 : Int32) (y : MS) : Option (Int32 × MS) :=
  if g_ok (y 120 8) 402 = true then ((f_X15_is (31 : Int32) y).bind fun q2 => if q2 = 0 then (f_X15_numberIn_33 (y 123 (y 120 8).toNatClampNeg) y) else ((f_X15_isIn (y 123 (y 120 8).toNatClampNeg) p1 p2).bind fun q4 => if q4 = 0 then ((f_X15_mark (5 : Int32) y).bind fun q6 => f_X15_numberIn_33 (y 123 (y 120 8).toNatClampNeg) q6) else (f_X15_numberIn_33 (y 123 (y 120 8).toNatClampNeg) y))) else none
def f_X15_part_95  : Nat → Int32 → Int32 → Int32 → Int32 → Int32 → MS → Option (MS)
  | 0, _, _, _, _, _, _ => none
  | n + 1, l1, l2, l3, l4, l5, y => if l4 ≤ l5 then (some (y)) else (if (y 120 9) = 0 then (if (y 120 10) = 0 then (if g_ok l1 10 = true then (if ¬ l4 = 0 then (if g_ok (((24 : Int32) * l1) + (y 140 l1.toNatClampNeg)) 240 = true then (if g_ok l1 10 = true then (if g_ok l1 10 = true then (f_X15_part_95 n l1 l2 l3 l4 (l5 + (1 : Int32)) (g_mi (g_mi y 141 (((24 : Int32) * l1) + (y 140 l1.toNatClampNeg)).toNatClampNeg (l2 + (((l3 - l2) * l5) / l4))) 140 l1.toNatClampNeg (((g_mi y 141 (((24 : Int32) * l1) + (y 140 l1.toNatClampNeg)).toNatClampNeg (l2 + (((l3 - l2) * l5) / l4))) 140 l1.toNatClampNeg) + (1 : Int32)))) else none) else none) else none) else none) else none) else (some (y))) else (some (y)))
def f_X15_part_63 (l1 : Int32) (l2 : Int32) (l3 : Int32) (y : MS) : Option (MS) :=
  (f_X15_take (3 : Int32) y).bind fun q10 => if g_ok l1 10 = true then ((f_X15_numberIn (1 : Int32) (g_min (9 : Int32) ((24 : Int32) - (q10 140 l1.toNatClampNeg))) q10).bind fun q12 => f_X15_part_95 g_fuel l1 l2 l3 q12.1 (0 : Int32) q12.2) else none
def f_X15_part (p1 : Int32) (y : MS) : Option (MS) :=
  (f_X15_takes (2 : Int32) y).bind fun q1 => if q1.1 = 0 then ((f_X15_takes (4 : Int32) q1.2).bind fun q3 => if q3.1 = 0 then ((f_X15_take (6 : Int32) q3.2).bind fun q5 => f_X15_part_63 p1 (0 : Int32) (0 : Int32) q5) else ((f_X15_numberIn (1 : Int32) (40 : Int32) q3.2).bind fun q6 => (f_X15_take (5 : Int32) q6.2).bind fun q7 => (f_X15_numberIn (1 : Int32) (40 : Int32) q7).bind fun q8 => f_X15_part_63 p1 q6.1 q8.1 q8.2)) else ((f_X15_numberIn (1 : Int32) (40 : Int32) q1.2).bind fun q9 => f_X15_part_63 p1 q9.1 q9.1 q9.2)
def f_X15_word_106  : Nat → Int32 → MS → Option (MS)
  | 0, _, _ => none
  | n + 1, l1, y => (f_X15_takes (54 : Int32) y).bind fun q18 => if q18.1 = 0 then (some (g_mi q18.2 139 2 (g_min (8 : Int32) (l1 + (1 : Int32))))) else ((f_X15_part l1 q18.2).bind fun q20 => f_X15_word_106 n l1 q20)
def f_X15_word_80 (l1 : Int32) (y : MS) : Option (MS) :=
  (f_X15_take (30 : Int32) y).bind fun q14 => (f_X15_take (1 : Int32) q14).bind fun q15 => if g_ok l1 10 = true then ((f_X15_part l1 (g_mi q15 140 l1.toNatClampNeg (0 : Int32))).bind fun q17 => f_X15_word_106 g_fuel l1 q17) else none
def f_X15_word_55 (l1 : Int32) (y : MS) : Option (MS) :=
  (f_X15_is (30 : Int32) y).bind fun q10 => if q10 = 0 then (f_X15_word_80 l1 y) else (if (8 : Int32) ≤ l1 then (f_X15_word_80 l1 y) else (if g_ok l1 8 = true then (f_X15_word_80 l1 (g_mi y 126 l1.toNatClampNeg (y 120 8))) else none))
def f_X15_word_35 (l1 : Int32) (y : MS) : Option (MS) :=
  (f_X15_is (30 : Int32) y).bind fun q6 => if q6 = 0 then (f_X15_word_55 l1 y) else (if l1 = (8 : Int32) then ((f_X15_mark (4 : Int32) y).bind fun q9 => f_X15_word_55 l1 q9) else (f_X15_word_55 l1 y))
def f_X15_word (y : MS) : Option (MS) :=
  (f_X15_is (30 : Int32) y).bind fun q1 => if q1 = 0 then (f_X15_word_35 (g_min (8 : Int32) (y 139 2)) y) else ((f_X15_known y).bind fun q3 => if q3 = (-1 : Int32) then (f_X15_word_35 (g_min (8 : Int32) (y 139 2)) y) else ((f_X15_mark (2 : Int32) y).bind fun q5 => f_X15_word_35 (g_min (8 : Int32) (y 139 2)) q5))
def f_X15_rule_122 (l2 : Int32) (s0 : Int32) (s1 : Int32) (y : MS) : Option (MS) :=
  if g_ok s1 17 = true then (if g_ok l2 17 = true then (some (g_mi (g_mi (g_mi y 147 s1.toNatClampNeg s0) 145 l2.toNatClampNeg ((g_mi y 147 s1.toNatClampNeg s0) 139 12)) 139 5 (g_min (16 : Int32) (l2 + (1 : Int32))))) else none) else none
def f_X15_rule_97 (l2 : Int32) (y : MS) : Option (MS) :=
  (f_X15_takes (13 : Int32) y).bind fun q11 => if q11.1 = 0 then (f_X15_rule_122 l2 (-1 : Int32) l2 q11.2) else ((f_X15_test (f_X15_single 12) q11.2).bind fun q13 => f_X15_rule_122 l2 q13.1 l2 q13.2)
def f_X15_rule_24 (l1 : Int32) (l2 : Int32) (y : MS) : Option (MS) :=
  if g_ok l2 17 = true then (if g_ok l2 17 = true then ((f_X15_name (g_mi (g_mi (g_mi y 120 8 ((y 120 8) + (1 : Int32))) 144 l2.toNatClampNeg ((g_mi y 120 8 ((y 120 8) + (1 : Int32))) 139 12)) 142 l2.toNatClampNeg l1)).bind fun q5 => if g_ok l2 17 = true then (if l1 = (2 : Int32) then ((f_X15_take (12 : Int32) (g_mi q5.2 143 l2.toNatClampNeg q5.1)).bind fun q8 => (f_X15_sum (f_X15_value 12) q8).bind fun q9 => if g_ok l2 17 = true then (f_X15_rule_97 l2 (g_mi q9.2 146 l2.toNatClampNeg q9.1)) else none) else (f_X15_rule_97 l2 (g_mi q5.2 143 l2.toNatClampNeg q5.1))) else none) else none) else none
def f_X15_rule (p1 : Int32) (y : MS) : Option (MS) :=
  if (g_min (16 : Int32) (y 139 5)) = (16 : Int32) then ((f_X15_mark (4 : Int32) y).bind fun q2 => f_X15_rule_24 p1 (g_min (16 : Int32) (y 139 5)) q2) else (f_X15_rule_24 p1 (g_min (16 : Int32) (y 139 5)) y)
def f_X15_line (y : MS) : Option (MS) :=
  (f_X15_takes (0 : Int32) y).bind fun q1 => if q1.1 = 0 then ((f_X15_takes (7 : Int32) q1.2).bind fun q3 => if q3.1 = 0 then ((f_X15_takes (8 : Int32) q3.2).bind fun q5 => if q5.1 = 0 then ((f_X15_is (9 : Int32) q5.2).bind fun q7 => if q7 = 0 then ((f_X15_is (10 : Int32) q5.2).bind fun q9 => if q9 = 0 then ((f_X15_is (11 : Int32) q5.2).bind fun q11 => if q11 = 0 then ((f_X15_wrong q5.2).bind fun q13 => some (q13)) else ((f_X15_rule (2 : Int32) q5.2).bind fun q14 => some (q14))) else ((f_X15_rule (1 : Int32) q5.2).bind fun q15 => some (q15))) else ((f_X15_rule (0 : Int32) q5.2).bind fun q16 => some (q16))) else ((f_X15_numberIn (0 : Int32) (99 : Int32) q5.2).bind fun q17 => some (g_mi q17.2 139 1 q17.1))) else ((f_X15_numberIn (0 : Int32) (20 : Int32) q3.2).bind fun q18 => some (g_mi q18.2 139 0 q18.1))) else ((f_X15_word q1.2).bind fun q19 => some (q19))
def f_X15_trim (p1 : Int32) (y : MS) : Option (Int32 × MS) :=
  (f_X15_isIn p1 (0 : Int32) ((g_mi y 120 0 (0 : Int32)) 120 2)).bind fun q1 => if q1 = 0 then ((f_X15_no (1 : Int32) (g_mi y 120 0 (0 : Int32))).bind fun q3 => some ((q3.1, q3.2))) else (some ((p1, g_mi (g_mi y 120 0 (0 : Int32)) 120 2 p1)))
def f_X15_teach_96 (s0 : Int32) (y : MS) : Option (Int32 × MS) :=
  if ((g_mi y 120 3 s0) 120 10) = 0 then ((f_X14_become 127 139 (g_mi y 120 3 s0)).bind fun q11 => (f_X13_begin 152 127 q11).bind fun q12 => some (((0 : Int32), q12))) else (some (((g_mi y 120 3 s0) 120 10, g_mi y 120 3 s0)))
def f_X15_teach_70 (y : MS) : Option (Int32 × MS) :=
  if ((g_mi y 120 2 (0 : Int32)) 120 10) = 0 then (f_X15_teach_96 (-1 : Int32) (g_mi y 120 2 (0 : Int32))) else (if g_ok ((g_mi y 120 2 (0 : Int32)) 120 11) 402 = true then (f_X15_teach_96 ((g_mi y 120 2 (0 : Int32)) 124 ((g_mi y 120 2 (0 : Int32)) 120 11).toNatClampNeg) (g_mi y 120 2 (0 : Int32))) else none)
def f_X15_teach_36  : Nat → MS → Option (Int32 × MS)
  | 0, _ => none
  | n + 1, y => if (y 120 9) = 0 then (if g_ok (y 120 8) 402 = true then (if (y 122 (y 120 8).toNatClampNeg) = (33 : Int32) then (f_X15_teach_70 y) else ((f_X15_line y).bind fun q6 => (f_X15_take (53 : Int32) q6).bind fun q7 => f_X15_teach_36 n q7)) else none) else (f_X15_teach_70 y)
def f_X15_teach (y : MS) : Option (Int32 × MS) :=
  (f_X14_begin 139 (g_mi (g_mi (g_mi (g_mi (g_mi y 120 0 (0 : Int32)) 120 8 (0 : Int32)) 120 9 (0 : Int32)) 120 10 (0 : Int32)) 120 12 (0 : Int32))).bind fun q1 => (f_X15_readAll q1).bind fun q2 => f_X15_teach_36 g_fuel q2
def f_X15_errorAt (y : MS) : Option (Int32 × MS) :=
  (f_X15_ok (y 120 3) y).bind fun q1 => some ((q1.1, q1.2))
def f_X15_contour (p1 : Nat) (p2 : Int32) (p3 : Int32) (y : MS) : Option (Int32) :=
  if g_ok p2 10 = true then (if (p3 + (1 : Int32)) < (y (p1 + 1) p2.toNatClampNeg) then (if g_ok ((((24 : Int32) * p2) + p3) + (1 : Int32)) 240 = true then (if g_ok (((24 : Int32) * p2) + p3) 240 = true then ((f_J6_signum_0f7a4 ((y (p1 + 2) ((((24 : Int32) * p2) + p3) + (1 : Int32)).toNatClampNeg) - (y (p1 + 2) (((24 : Int32) * p2) + p3).toNatClampNeg))).bind fun q5 => some (q5)) else none) else none) else (some ((0 : Int32)))) else none
def f_X15_cost_64 (y : MS) (l6 : Int32) (l7 : Int32) : Option (Int32) :=
  if l6 = l7 then (some ((0 : Int32))) else (some ((10 : Int32)))
def f_X15_cost (p1 : Nat) (p2 : Int32) (p3 : Int32) (p4 : Int32) (p5 : Int32) (p6 : Int32) (y : MS) : Option (Int32) :=
  if p6 = 0 then (if g_ok (((24 : Int32) * p2) + p3) 240 = true then (if g_ok (((24 : Int32) * p4) + p5) 240 = true then (if (y (p1 + 2) (((24 : Int32) * p2) + p3).toNatClampNeg) = 0 then (f_X15_cost_64 y (y (p1 + 2) (((24 : Int32) * p2) + p3).toNatClampNeg) (y (p1 + 2) (((24 : Int32) * p4) + p5).toNatClampNeg)) else (if (y (p1 + 2) (((24 : Int32) * p4) + p5).toNatClampNeg) = 0 then (f_X15_cost_64 y (y (p1 + 2) (((24 : Int32) * p2) + p3).toNatClampNeg) (y (p1 + 2) (((24 : Int32) * p4) + p5).toNatClampNeg)) else (some (g_abs ((y (p1 + 2) (((24 : Int32) * p2) + p3).toNatClampNeg) - (y (p1 + 2) (((24 : Int32) * p4) + p5).toNatClampNeg)))))) else none) else none) else ((f_X15_contour p1 p2 p3 y).bind fun q6 => (f_X15_contour p1 p4 p5 y).bind fun q7 => if q6 = q7 then (some ((0 : Int32))) else (some ((1 : Int32))))
def f_X15_way_205 (k37 : Nat → Int32 → Int32 → Int32 → Int32 → Int32 → Int32 → Int32 → MS → Option (Int32 × MS)) (k47 : Nat → Int32 → Int32 → Int32 → Int32 → Int32 → Int32 → Int32 → Int32 → MS → Option (Int32 × MS)) (l1 : Nat) (l2 : Int32) (l3 : Int32) (l4 : Int32) (l5 : Int32) (l6 : Int32) (l7 : Int32) (l8 : Int32) (l9 : Int32) (l10 : Int32) (y : MS) : Option (Int32 × MS) :=
  if g_ok (((24 : Int32) * l8) + l9) 576 = true then (k47 l1 l2 l3 l4 l5 l6 l7 l8 (l9 + (1 : Int32)) (g_mi y 160 (((24 : Int32) * l8) + l9).toNatClampNeg l10)) else none
def f_X15_way_177 (k37 : Nat → Int32 → Int32 → Int32 → Int32 → Int32 → Int32 → Int32 → MS → Option (Int32 × MS)) (k47 : Nat → Int32 → Int32 → Int32 → Int32 → Int32 → Int32 → Int32 → Int32 → MS → Option (Int32 × MS)) (l1 : Nat) (l2 : Int32) (l3 : Int32) (l4 : Int32) (l5 : Int32) (l6 : Int32) (l7 : Int32) (l8 : Int32) (l9 : Int32) (l11 : Int32) (y : MS) : Option (Int32 × MS) :=
  (f_X15_cost l1 l2 l8 l3 l9 l4 y).bind fun q16 => f_X15_way_205 k37 k47 l1 l2 l3 l4 l5 l6 l7 l8 l9 (g_min (536870912 : Int32) ((l11 + ((100 : Int32) * q16)) + (1 : Int32))) y
def f_X15_way_143 (k37 : Nat → Int32 → Int32 → Int32 → Int32 → Int32 → Int32 → Int32 → MS → Option (Int32 × MS)) (k47 : Nat → Int32 → Int32 → Int32 → Int32 → Int32 → Int32 → Int32 → Int32 → MS → Option (Int32 × MS)) (l1 : Nat) (l2 : Int32) (l3 : Int32) (l4 : Int32) (l5 : Int32) (l6 : Int32) (l7 : Int32) (l8 : Int32) (l9 : Int32) (l11 : Int32) (y : MS) : Option (Int32 × MS) :=
  if l8 ≤ 0 then (f_X15_way_177 k37 k47 l1 l2 l3 l4 l5 l6 l7 l8 l9 l11 y) else (if l9 ≤ 0 then (f_X15_way_177 k37 k47 l1 l2 l3 l4 l5 l6 l7 l8 l9 l11 y) else (if g_ok ((((24 : Int32) * (l8 - (1 : Int32))) + l9) - (1 : Int32)) 576 = true then (f_X15_way_177 k37 k47 l1 l2 l3 l4 l5 l6 l7 l8 l9 (g_min l11 (y 160 ((((24 : Int32) * (l8 - (1 : Int32))) + l9) - (1 : Int32)).toNatClampNeg)) y) else none))
def f_X15_way_116 (k37 : Nat → Int32 → Int32 → Int32 → Int32 → Int32 → Int32 → Int32 → MS → Option (Int32 × MS)) (k47 : Nat → Int32 → Int32 → Int32 → Int32 → Int32 → Int32 → Int32 → Int32 → MS → Option (Int32 × MS)) (l1 : Nat) (l2 : Int32) (l3 : Int32) (l4 : Int32) (l5 : Int32) (l6 : Int32) (l7 : Int32) (l8 : Int32) (l9 : Int32) (l11 : Int32) (y : MS) : Option (Int32 × MS) :=
  if l9 ≤ 0 then (f_X15_way_143 k37 k47 l1 l2 l3 l4 l5 l6 l7 l8 l9 l11 y) else (if g_ok ((((24 : Int32) * l8) + l9) - (1 : Int32)) 576 = true then (f_X15_way_143 k37 k47 l1 l2 l3 l4 l5 l6 l7 l8 l9 (g_min l11 (y 160 ((((24 : Int32) * l8) + l9) - (1 : Int32)).toNatClampNeg)) y) else none)
def f_X15_way_87 (k37 : Nat → Int32 → Int32 → Int32 → Int32 → Int32 → Int32 → Int32 → MS → Option (Int32 × MS)) (k47 : Nat → Int32 → Int32 → Int32 → Int32 → Int32 → Int32 → Int32 → Int32 → MS → Option (Int32 × MS)) (l1 : Nat) (l2 : Int32) (l3 : Int32) (l4 : Int32) (l5 : Int32) (l6 : Int32) (l7 : Int32) (l8 : Int32) (l9 : Int32) (s0 : Int32) (y : MS) : Option (Int32 × MS) :=
  if l8 ≤ 0 then (f_X15_way_116 k37 k47 l1 l2 l3 l4 l5 l6 l7 l8 l9 s0 y) else (if g_ok (((24 : Int32) * (l8 - (1 : Int32))) + l9) 576 = true then (f_X15_way_116 k37 k47 l1 l2 l3 l4 l5 l6 l7 l8 l9 (g_min s0 (y 160 (((24 : Int32) * (l8 - (1 : Int32))) + l9).toNatClampNeg)) y) else none)
def f_X15_way_47 (k37 : Nat → Int32 → Int32 → Int32 → Int32 → Int32 → Int32 → Int32 → MS → Option (Int32 × MS)) : Nat → Nat → Int32 → Int32 → Int32 → Int32 → Int32 → Int32 → Int32 → Int32 → MS → Option (Int32 × MS)
  | 0, _, _, _, _, _, _, _, _, _, _ => none
  | n + 1, l1, l2, l3, l4, l5, l6, l7, l8, l9, y => if l6 ≤ l9 then (k37 l1 l2 l3 l4 l5 l6 l7 (l8 + (1 : Int32)) y) else (if l7 < (g_abs (l8 - l9)) then (f_X15_way_205 k37 (f_X15_way_47 k37 n) l1 l2 l3 l4 l5 l6 l7 l8 l9 (536870912 : Int32) y) else (if (l8 + l9) = 0 then (f_X15_way_87 k37 (f_X15_way_47 k37 n) l1 l2 l3 l4 l5 l6 l7 l8 l9 (0 : Int32) y) else (f_X15_way_87 k37 (f_X15_way_47 k37 n) l1 l2 l3 l4 l5 l6 l7 l8 l9 (536870912 : Int32) y)))
def f_X15_way_37  : Nat → Nat → Int32 → Int32 → Int32 → Int32 → Int32 → Int32 → Int32 → MS → Option (Int32 × MS)
  | 0, _, _, _, _, _, _, _, _, _ => none
  | n + 1, l1, l2, l3, l4, l5, l6, l7, l8, y => if l5 ≤ l8 then (if g_ok ((((24 : Int32) * (l5 - (1 : Int32))) + l6) - (1 : Int32)) 576 = true then (some ((y 160 ((((24 : Int32) * (l5 - (1 : Int32))) + l6) - (1 : Int32)).toNatClampNeg, y))) else none) else (f_X15_way_47 (f_X15_way_37 n) g_fuel l1 l2 l3 l4 l5 l6 l7 l8 (0 : Int32) y)
def f_X15_way (p1 : Nat) (p2 : Int32) (p3 : Int32) (p4 : Int32) (y : MS) : Option (Int32 × MS) :=
  if g_ok p2 10 = true then (if g_ok p3 10 = true then (f_X15_way_37 g_fuel p1 p2 p3 p4 (y (p1 + 1) p2.toNatClampNeg) (y (p1 + 1) p3.toNatClampNeg) ((y 127 0) + (g_abs ((y (p1 + 1) p2.toNatClampNeg) - (y (p1 + 1) p3.toNatClampNeg)))) (0 : Int32) y) else none) else none
def f_X15_distance (p1 : Nat) (p2 : Int32) (p3 : Int32) (y : MS) : Option (Int32 × MS) :=
  (f_X15_way p1 p2 p3 (0 : Int32) y).bind fun q1 => some ((q1.1 / (100 : Int32), q1.2))
def f_X15_meant_20  : Nat → Nat → Int32 → Int32 → Int32 → Int32 → MS → Option (Int32 × MS)
  | 0, _, _, _, _, _, _ => none
  | n + 1, l1, l2, l3, l4, l5, y => if (y 127 2) ≤ l5 then (some ((l3, y))) else (if l5 = l2 then (f_X15_meant_20 n l1 l2 l3 l4 (l5 + (1 : Int32)) y) else (if g_ok l5 8 = true then (if (y (l1 + 3) l5.toNatClampNeg) = (1 : Int32) then (f_X15_meant_20 n l1 l2 l3 l4 (l5 + (1 : Int32)) y) else ((f_X15_distance l1 l5 (8 : Int32) y).bind fun q7 => if l3 = (-1 : Int32) then (f_X15_meant_20 n l1 l2 l5 q7.1 (l5 + (1 : Int32)) q7.2) else (if q7.1 < l4 then (f_X15_meant_20 n l1 l2 l5 q7.1 (l5 + (1 : Int32)) q7.2) else (f_X15_meant_20 n l1 l2 l3 l4 (l5 + (1 : Int32)) q7.2)))) else none))
def f_X15_meant (p1 : Nat) (p2 : Int32) (y : MS) : Option (Int32 × MS) :=
  if g_ok (8 : Int32) 10 = true then (if (y (p1 + 1) (8 : Int32).toNatClampNeg) = 0 then (some (((-1 : Int32), y))) else (f_X15_meant_20 g_fuel p1 p2 (-1 : Int32) (0 : Int32) (0 : Int32) y)) else none
def f_X15_kept_4 (y : MS) : Nat → Nat → Int32 → Int32 → Option (Int32)
  | 0, _, _, _ => none
  | n + 1, l1, l2, l3 => if (y 127 2) ≤ l3 then (some (l2)) else (if g_ok l3 8 = true then (f_X15_kept_4 y n l1 (l2 + ((1 : Int32) - (y (l1 + 3) l3.toNatClampNeg))) (l3 + (1 : Int32))) else none)
def f_X15_kept (p1 : Nat) (y : MS) : Option (Int32) :=
  f_X15_kept_4 y g_fuel p1 (0 : Int32) (0 : Int32)
def f_X15_near (p1 : Nat) (p2 : Int32) (p3 : Int32) (y : MS) : Option (Int32 × MS) :=
  if p2 = p3 then (some (((0 : Int32), y))) else ((f_X15_distance p1 p2 p3 y).bind fun q2 => if g_ok p2 10 = true then (if g_ok p3 10 = true then (if (((q2.2 127 1) * (g_max (q2.2 (p1 + 1) p2.toNatClampNeg) (q2.2 (p1 + 1) p3.toNatClampNeg))) / (4 : Int32)) ≤ q2.1 then (some (((0 : Int32), q2.2))) else (some (((1 : Int32), q2.2)))) else none) else none)
def f_X15_needless_17  : Nat → Int32 → Int32 → MS → Option (Int32 × MS)
  | 0, _, _, _ => none
  | n + 1, l1, l2, y => if l1 ≤ l2 then (some (((0 : Int32), y))) else (if g_ok l2 8 = true then (if (y 155 l2.toNatClampNeg) = 0 then ((f_X15_near 152 l2 l1 y).bind fun q6 => if q6.1 = 0 then (f_X15_needless_17 n l1 (l2 + (1 : Int32)) q6.2) else (some (((1 : Int32), q6.2)))) else (f_X15_needless_17 n l1 (l2 + (1 : Int32)) y)) else none)
def f_X15_needless (p1 : Int32) (y : MS) : Option (Int32 × MS) :=
  if g_ok p1 8 = true then (if (y 155 p1.toNatClampNeg) = (1 : Int32) then (some (((0 : Int32), y))) else (f_X15_needless_17 g_fuel p1 (0 : Int32) y)) else none
def f_X15_joined (p1 : Int32) (p2 : Int32) (p3 : Int32) : Option (Int32) :=
  if p1 = (22 : Int32) then (some (p2 &&& p3)) else (if p1 = (23 : Int32) then (some (p2 ||| p3)) else (if p1 = (24 : Int32) then (some (g_min p2 p3)) else (if p1 = (25 : Int32) then (some (g_max p2 p3)) else (if p1 = (26 : Int32) then (if p2 < p3 then (some ((0 : Int32))) else (some ((1 : Int32)))) else (if p1 = (27 : Int32) then (if p2 < p3 then (some ((0 : Int32))) else (some ((1 : Int32)))) else (if p1 = (28 : Int32) then (if p2 < p3 then (some ((0 : Int32))) else (some ((1 : Int32)))) else (if p1 = (29 : Int32) then (if p2 < p3 then (some ((0 : Int32))) else (some ((1 : Int32)))) else (if p1 = (30 : Int32) then (if p2 < p3 then (some ((0 : Int32))) else (some ((1 : Int32)))) else (if p1 = (31 : Int32) then (if p2 < p3 then (some ((0 : Int32))) else (some ((1 : Int32)))) else (if p1 = (32 : Int32) then (if p2 < p3 then (some ((0 : Int32))) else (some ((1 : Int32)))) else (if p1 = (33 : Int32) then (if p2 < p3 then (some ((0 : Int32))) else (some ((1 : Int32)))) else (if p1 = (34 : Int32) then (if p2 < p3 then (some ((0 : Int32))) else (some ((1 : Int32)))) else (if p1 = (35 : Int32) then (if p2 < p3 then (some ((0 : Int32))) else (some ((1 : Int32)))) else (if p1 = (36 : Int32) then (if p2 < p3 then (some ((0 : Int32))) else (some ((1 : Int32)))) else (if p1 = (37 : Int32) then (if p2 < p3 then (some ((0 : Int32))) else (some ((1 : Int32)))) else (if p1 = (38 : Int32) then (if p2 < p3 then (some ((0 : Int32))) else (some ((1 : Int32)))) else (if p1 = (39 : Int32) then (if p2 < p3 then (some ((0 : Int32))) else (some ((1 : Int32)))) else (if p1 = (40 : Int32) then (some (p2 + p3)) else (if p1 = (41 : Int32) then (some (p2 - p3)) else (if p1 = (42 : Int32) then (some (p2 * p3)) else (if p1 = (43 : Int32) then (if p3 = 0 then (some ((0 : Int32))) else (if ¬ p3 = 0 then (some (p2 / p3)) else none)) else (if p1 = (44 : Int32) then (if p3 ≤ p2 then (some ((0 : Int32))) else (some ((1 : Int32)))) else (if p1 = (45 : Int32) then (if p2 ≤ p3 then (some ((0 : Int32))) else (some ((1 : Int32)))) else (if p1 = (46 : Int32) then (if p2 = p3 then (some ((1 : Int32))) else (some ((0 : Int32)))) else (if p1 = (47 : Int32) then (if p3 < p2 then (some ((0 : Int32))) else (some ((1 : Int32)))) else (if p2 < p3 then (some ((0 : Int32))) else (some ((1 : Int32)))))))))))))))))))))))))))))
def f_X15_reckon (p1 : Nat) (p2 : Int32) (p3 : Int32) (p4 : Int32) (y : MS) : Option (Int32 × MS) :=
  if p2 = (14 : Int32) then (some ((y p1 3, y))) else (if p2 = (15 : Int32) then ((f_X15_kept p1 y).bind fun q22 => some ((q22, y))) else (if p2 = (16 : Int32) then (if g_ok (8 : Int32) 10 = true then (if (y (p1 + 1) (8 : Int32).toNatClampNeg) = 0 then (some (((999 : Int32), y))) else ((f_X15_distance p1 p3 (8 : Int32) y).bind fun q21 => some ((q21.1, q21.2)))) else none) else (if p2 = (17 : Int32) then (if g_ok p3 10 = true then (some ((y (p1 + 1) p3.toNatClampNeg, y))) else none) else (if p2 = (19 : Int32) then ((f_X15_meant p1 (-1 : Int32) y).bind fun q16 => if q16.1 = p3 then (some (((1 : Int32), q16.2))) else (some (((0 : Int32), q16.2)))) else (if p2 = (20 : Int32) then (if g_ok p3 8 = true then (some ((y (p1 + 3) p3.toNatClampNeg, y))) else none) else (if p2 = (21 : Int32) then (if g_ok p3 800 = true then (some (((1 : Int32) - (y 151 p3.toNatClampNeg), y))) else none) else (if p2 = (31 : Int32) then (some ((p3, y))) else (if p2 = (60 : Int32) then (if g_ok p3 800 = true then (some ((-(y 151 p3.toNatClampNeg), y))) else none) else (if g_ok p3 800 = true then (if g_ok p4 800 = true then ((f_X15_joined p2 (y 151 p3.toNatClampNeg) (y 151 p4.toNatClampNeg)).bind fun q12 => some ((q12, y))) else none) else none)))))))))
def f_X15_held (p1 : Int32) (p2 : Int32) : Option (Int32) :=
  if p1 = 0 then (some ((0 : Int32))) else (some ((g_maxL (1 : Int64) (g_minL (40 : Int64) (p1.toInt64 + p2.toInt64))).toInt32))
def f_X15_isShifted_57 (k9 : Nat → Int32 → Int32 → Int32 → Int32 → MS → Option (Int32 × MS)) (l1 : Nat) (l2 : Int32) (l3 : Int32) (l5 : Int32) (l6 : Int32) (s0 : Int32) (s1 : Int32) (y : MS) : Option (Int32 × MS) :=
  if g_ok l5 240 = true then (k9 l1 l2 l3 (s1 ||| s0) (l5 + (1 : Int32)) (g_mi y (l1 + 2) l5.toNatClampNeg l6)) else none
def f_X15_isShifted_9  : Nat → Nat → Int32 → Int32 → Int32 → Int32 → MS → Option (Int32 × MS)
  | 0, _, _, _, _, _, _ => none
  | n + 1, l1, l2, l3, l4, l5, y => if g_ok l2 10 = true then (if (((24 : Int32) * l2) + (y (l1 + 1) l2.toNatClampNeg)) ≤ l5 then (if l4 = 0 ∨ l4 = 1 then (some ((l4, y))) else none) else (if g_ok l5 240 = true then ((f_X15_held (y (l1 + 2) l5.toNatClampNeg) l3).bind fun q5 => if g_ok l5 240 = true then (if q5 = (y (l1 + 2) l5.toNatClampNeg) then (f_X15_isShifted_57 (f_X15_isShifted_9 n) l1 l2 l3 l5 q5 (0 : Int32) l4 y) else (f_X15_isShifted_57 (f_X15_isShifted_9 n) l1 l2 l3 l5 q5 (1 : Int32) l4 y)) else none) else none)) else none
def f_X15_isShifted (p1 : Nat) (p2 : Int32) (p3 : Int32) (y : MS) : Option (Int32 × MS) :=
  f_X15_isShifted_9 g_fuel p1 p2 p3 (0 : Int32) ((24 : Int32) * p2) y
def f_X15_carryOut_178 (l1 : Nat) (l3 : Int32) (l4 : Int32) (s0 : Int32) (y : MS) : Option (Int32 × MS) :=
  if g_ok l3 8 = true then (if s0 = 0 ∨ s0 = 1 then (some ((s0, g_mi y (l1 + 3) l3.toNatClampNeg l4))) else none) else none
def f_X15_carryOut_160 (l1 : Nat) (l3 : Int32) (s0 : Int32) (y : MS) : Option (Int32 × MS) :=
  if g_ok l3 8 = true then (if (y (l1 + 3) l3.toNatClampNeg) = s0 then (f_X15_carryOut_178 l1 l3 s0 (0 : Int32) y) else (f_X15_carryOut_178 l1 l3 s0 (1 : Int32) y)) else none
def f_X15_carryOut_99 (l1 : Nat) (l2 : Int32) (y : MS) : Option (Int32 × MS) :=
  if g_ok l2 17 = true then (if g_ok l2 17 = true then (if (y 130 l2.toNatClampNeg) = (2 : Int32) then (if g_ok l2 17 = true then (if g_ok (y 134 l2.toNatClampNeg) 800 = true then ((f_X15_isShifted l1 (y 131 l2.toNatClampNeg) (y 151 (y 134 l2.toNatClampNeg).toNatClampNeg) y).bind fun q21 => if q21.1 = 0 ∨ q21.1 = 1 then (some ((q21.1, q21.2))) else none) else none) else none) else (if g_ok l2 17 = true then (if (y 130 l2.toNatClampNeg) = 0 then (f_X15_carryOut_160 l1 (y 131 l2.toNatClampNeg) (1 : Int32) y) else (f_X15_carryOut_160 l1 (y 131 l2.toNatClampNeg) (0 : Int32) y)) else none)) else none) else none
def f_X15_carryOut_10  : Nat → Nat → Int32 → Int32 → MS → Option (Int32 × MS)
  | 0, _, _, _, _ => none
  | n + 1, l1, l2, l3, y => if g_ok l2 17 = true then (if (y 133 l2.toNatClampNeg) ≤ l3 then (if g_ok l2 17 = true then (if (y 135 l2.toNatClampNeg) = (-1 : Int32) then (f_X15_carryOut_99 l1 l2 y) else (if g_ok l2 17 = true then (if g_ok (y 135 l2.toNatClampNeg) 800 = true then (if (y 151 (y 135 l2.toNatClampNeg).toNatClampNeg) = 0 then (some (((0 : Int32), y))) else (f_X15_carryOut_99 l1 l2 y)) else none) else none)) else none) else (if g_ok l3 800 = true then (if g_ok l3 800 = true then (if g_ok l3 800 = true then ((f_X15_reckon l1 (y 136 l3.toNatClampNeg) (y 137 l3.toNatClampNeg) (y 138 l3.toNatClampNeg) y).bind fun q12 => if g_ok l3 800 = true then (f_X15_carryOut_10 n l1 l2 (l3 + (1 : Int32)) (g_mi q12.2 151 l3.toNatClampNeg q12.1)) else none) else none) else none) else none)) else none
def f_X15_carryOut (p1 : Nat) (p2 : Int32) (y : MS) : Option (Int32 × MS) :=
  if g_ok p2 17 = true then (f_X15_carryOut_10 g_fuel p1 p2 (y 132 p2.toNatClampNeg) y) else none
def f_X15_lesson_4  : Nat → Nat → Int32 → Int32 → MS → Option (Int32 × MS)
  | 0, _, _, _, _ => none
  | n + 1, l1, l2, l3, y => if (y 127 5) ≤ l3 then (some ((l2, g_mi (g_mi y l1 4 ((y l1 4) + l2)) l1 3 (((g_mi y l1 4 ((y l1 4) + l2)) l1 3) + (1 : Int32))))) else ((f_X15_carryOut l1 l3 y).bind fun q2 => if q2.1 = 0 then (f_X15_lesson_4 n l1 (l2 + (0 : Int32)) (l3 + (1 : Int32)) q2.2) else (f_X15_lesson_4 n l1 (l2 + (1 : Int32)) (l3 + (1 : Int32)) q2.2))
def f_X15_lesson (p1 : Nat) (y : MS) : Option (Int32 × MS) :=
  f_X15_lesson_4 g_fuel p1 (0 : Int32) (0 : Int32) y
def f_X15_words (y : MS) : Option (Int32 × MS) :=
  (f_X15_ok (y 127 2) y).bind fun q1 => some ((q1.1, q1.2))
def f_X15_keptWords (y : MS) : Option (Int32 × MS) :=
  (f_X15_kept 152 y).bind fun q1 => (f_X15_ok q1 y).bind fun q2 => some ((q2.1, q2.2))
def f_X15_rules (y : MS) : Option (Int32 × MS) :=
  (f_X15_ok (y 127 5) y).bind fun q1 => some ((q1.1, q1.2))
def f_X15_lessons (y : MS) : Option (Int32 × MS) :=
  (f_X15_ok (y 152 3) y).bind fun q1 => some ((q1.1, q1.2))
def f_X15_rulesCarriedOut (y : MS) : Option (Int32 × MS) :=
  (f_X15_ok (y 152 4) y).bind fun q1 => some ((q1.1, q1.2))
def f_X15_heardBeats (y : MS) : Option (Int32 × MS) :=
  if g_ok (8 : Int32) 10 = true then ((f_X15_ok (y 153 (8 : Int32).toNatClampNeg) y).bind fun q2 => some ((q2.1, q2.2))) else none
def f_X15_isTold (p1 : Int32) (y : MS) : Option (Int32) :=
  (f_X15_isIn p1 (0 : Int32) ((y 127 2) - (1 : Int32))).bind fun q1 => if q1 = 0 ∨ q1 = 1 then (some (q1)) else none
def f_X15_isBeat (p1 : Int32) (p2 : Int32) (y : MS) : Option (Int32) :=
  (f_X15_isTold p1 y).bind fun q1 => if q1 = 0 then (some ((0 : Int32))) else (if g_ok p1 10 = true then ((f_X15_isIn p2 (0 : Int32) ((y 153 p1.toNatClampNeg) - (1 : Int32))).bind fun q4 => if q4 = 0 then (some ((0 : Int32))) else (some ((1 : Int32)))) else none)
def f_X15_lengthOf (p1 : Int32) (y : MS) : Option (Int32 × MS) :=
  (f_X15_isTold p1 (g_mi y 120 0 (0 : Int32))).bind fun q1 => if q1 = 0 then ((f_X15_no (1 : Int32) (g_mi y 120 0 (0 : Int32))).bind fun q3 => some ((q3.1, q3.2))) else (if g_ok p1 10 = true then (some (((g_mi y 120 0 (0 : Int32)) 153 p1.toNatClampNeg, g_mi y 120 0 (0 : Int32)))) else none)
def f_X15_pitchAt (p1 : Int32) (p2 : Int32) (y : MS) : Option (Int32 × MS) :=
  (f_X15_isBeat p1 p2 (g_mi y 120 0 (0 : Int32))).bind fun q1 => if q1 = 0 then ((f_X15_no (1 : Int32) (g_mi y 120 0 (0 : Int32))).bind fun q3 => some ((q3.1, q3.2))) else (if g_ok (((24 : Int32) * p1) + p2) 240 = true then (some (((g_mi y 120 0 (0 : Int32)) 154 (((24 : Int32) * p1) + p2).toNatClampNeg, g_mi y 120 0 (0 : Int32)))) else none)
def f_X15_contourAt (p1 : Int32) (p2 : Int32) (y : MS) : Option (Int32 × MS) :=
  (f_X15_isBeat p1 p2 (g_mi y 120 0 (0 : Int32))).bind fun q1 => if q1 = 0 then ((f_X15_no (1 : Int32) (g_mi y 120 0 (0 : Int32))).bind fun q3 => some ((q3.1, q3.2))) else ((f_X15_contour 152 p1 p2 (g_mi y 120 0 (0 : Int32))).bind fun q4 => some ((q4, g_mi y 120 0 (0 : Int32))))
def f_X15_isPruned (p1 : Int32) (y : MS) : Option (Int32 × MS) :=
  (f_X15_isTold p1 (g_mi y 120 0 (0 : Int32))).bind fun q1 => if q1 = 0 then ((f_X15_isNot (1 : Int32) (g_mi y 120 0 (0 : Int32))).bind fun q3 => if q3.1 = 0 ∨ q3.1 = 1 then (some ((q3.1, q3.2))) else none) else (if g_ok p1 8 = true then (if ((g_mi y 120 0 (0 : Int32)) 155 p1.toNatClampNeg) = (1 : Int32) then (some (((1 : Int32), g_mi y 120 0 (0 : Int32)))) else (some (((0 : Int32), g_mi y 120 0 (0 : Int32))))) else none)
def f_X15_silentBeats_23  : Nat → Int32 → Int32 → Int32 → MS → Option (Int32 × MS)
  | 0, _, _, _, _ => none
  | n + 1, l1, l2, l3, y => if g_ok l1 10 = true then (if (y 153 l1.toNatClampNeg) ≤ l3 then (some ((l2, y))) else (if g_ok (((24 : Int32) * l1) + l3) 240 = true then (if (y 154 (((24 : Int32) * l1) + l3).toNatClampNeg) = 0 then (f_X15_silentBeats_23 n l1 (l2 + (1 : Int32)) (l3 + (1 : Int32)) y) else (f_X15_silentBeats_23 n l1 (l2 + (0 : Int32)) (l3 + (1 : Int32)) y)) else none)) else none
def f_X15_silentBeats (p1 : Int32) (y : MS) : Option (Int32 × MS) :=
  (f_X15_isTold p1 (g_mi y 120 0 (0 : Int32))).bind fun q1 => if q1 = 0 then ((f_X15_no (1 : Int32) (g_mi y 120 0 (0 : Int32))).bind fun q3 => some ((q3.1, q3.2))) else (f_X15_silentBeats_23 g_fuel p1 (0 : Int32) (0 : Int32) (g_mi y 120 0 (0 : Int32)))
def f_X15_distanceBetween_34 (y : MS) : Option (Int32 × MS) :=
  (f_X15_no (1 : Int32) y).bind fun q6 => some ((q6.1, q6.2))
def f_X15_distanceBetween (p1 : Int32) (p2 : Int32) (y : MS) : Option (Int32 × MS) :=
  (f_X15_isTold p1 (g_mi y 120 0 (0 : Int32))).bind fun q1 => if q1 = 0 then (f_X15_distanceBetween_34 (g_mi y 120 0 (0 : Int32))) else ((f_X15_isTold p2 (g_mi y 120 0 (0 : Int32))).bind fun q3 => if q3 = 0 then (f_X15_distanceBetween_34 (g_mi y 120 0 (0 : Int32))) else ((f_X15_distance 152 p1 p2 (g_mi y 120 0 (0 : Int32))).bind fun q5 => some ((q5.1, q5.2))))
def f_X15_contourBetween_38 (y : MS) : Option (Int32 × MS) :=
  (f_X15_no (1 : Int32) y).bind fun q6 => some ((q6.1, q6.2))
def f_X15_contourBetween (p1 : Int32) (p2 : Int32) (y : MS) : Option (Int32 × MS) :=
  (f_X15_isTold p1 (g_mi y 120 0 (0 : Int32))).bind fun q1 => if q1 = 0 then (f_X15_contourBetween_38 (g_mi y 120 0 (0 : Int32))) else ((f_X15_isTold p2 (g_mi y 120 0 (0 : Int32))).bind fun q3 => if q3 = 0 then (f_X15_contourBetween_38 (g_mi y 120 0 (0 : Int32))) else ((f_X15_way 152 p1 p2 (1 : Int32) (g_mi y 120 0 (0 : Int32))).bind fun q5 => some ((q5.1 / (100 : Int32), q5.2))))
def f_X15_areNear_34 (y : MS) : Option (Int32 × MS) :=
  (f_X15_isNot (1 : Int32) y).bind fun q7 => if q7.1 = 0 ∨ q7.1 = 1 then (some ((q7.1, q7.2))) else none
def f_X15_areNear (p1 : Int32) (p2 : Int32) (y : MS) : Option (Int32 × MS) :=
  (f_X15_isTold p1 (g_mi y 120 0 (0 : Int32))).bind fun q1 => if q1 = 0 then (f_X15_areNear_34 (g_mi y 120 0 (0 : Int32))) else ((f_X15_isTold p2 (g_mi y 120 0 (0 : Int32))).bind fun q3 => if q3 = 0 then (f_X15_areNear_34 (g_mi y 120 0 (0 : Int32))) else ((f_X15_near 152 p1 p2 (g_mi y 120 0 (0 : Int32))).bind fun q5 => if q5.1 = 0 ∨ q5.1 = 1 then (some ((q5.1, q5.2))) else none))
def f_X15_nearestTo_26  : Nat → Int32 → Int32 → Int32 → Int32 → MS → Option (Int32 × MS)
  | 0, _, _, _, _, _ => none
  | n + 1, l1, l2, l3, l4, y => if (y 127 2) ≤ l4 then (if l2 = (-1 : Int32) then ((f_X15_no (2 : Int32) y).bind fun q6 => some ((q6.1, q6.2))) else (some ((l2, y)))) else (if l4 = l1 then (f_X15_nearestTo_26 n l1 l2 l3 (l4 + (1 : Int32)) y) else ((f_X15_distance 152 l4 l1 y).bind fun q8 => if l2 = (-1 : Int32) then (f_X15_nearestTo_26 n l1 l4 q8.1 (l4 + (1 : Int32)) q8.2) else (if q8.1 < l3 then (f_X15_nearestTo_26 n l1 l4 q8.1 (l4 + (1 : Int32)) q8.2) else (f_X15_nearestTo_26 n l1 l2 l3 (l4 + (1 : Int32)) q8.2))))
def f_X15_nearestTo (p1 : Int32) (y : MS) : Option (Int32 × MS) :=
  (f_X15_isTold p1 (g_mi y 120 0 (0 : Int32))).bind fun q1 => if q1 = 0 then ((f_X15_no (1 : Int32) (g_mi y 120 0 (0 : Int32))).bind fun q3 => some ((q3.1, q3.2))) else (f_X15_nearestTo_26 g_fuel p1 (-1 : Int32) (0 : Int32) (0 : Int32) (g_mi y 120 0 (0 : Int32)))
def f_X15_isNeedless (p1 : Int32) (y : MS) : Option (Int32 × MS) :=
  (f_X15_isTold p1 (g_mi y 120 0 (0 : Int32))).bind fun q1 => if q1 = 0 then ((f_X15_isNot (1 : Int32) (g_mi y 120 0 (0 : Int32))).bind fun q3 => if q3.1 = 0 ∨ q3.1 = 1 then (some ((q3.1, q3.2))) else none) else ((f_X15_needless p1 (g_mi y 120 0 (0 : Int32))).bind fun q5 => if q5.1 = 0 ∨ q5.1 = 1 then (some ((q5.1, q5.2))) else none)
def f_X15_heardPitch (p1 : Int32) (y : MS) : Option (Int32 × MS) :=
  if g_ok (8 : Int32) 10 = true then ((f_X15_isIn p1 (0 : Int32) (((g_mi y 120 0 (0 : Int32)) 153 (8 : Int32).toNatClampNeg) - (1 : Int32))).bind fun q2 => if q2 = 0 then ((f_X15_no (1 : Int32) (g_mi y 120 0 (0 : Int32))).bind fun q4 => some ((q4.1, q4.2))) else (if g_ok ((192 : Int32) + p1) 240 = true then (some (((g_mi y 120 0 (0 : Int32)) 154 ((192 : Int32) + p1).toNatClampNeg, g_mi y 120 0 (0 : Int32)))) else none)) else none
def f_X15_isHeard_31 (s0 : Int32) (y : MS) : Option (Int32 × MS) :=
  if ((g_mi y 120 0 s0) 120 0) = 0 then (some (((1 : Int32), g_mi y 120 0 s0))) else (some (((0 : Int32), g_mi y 120 0 s0)))
def f_X15_isHeard (p1 : Int32) (y : MS) : Option (Int32 × MS) :=
  (f_X15_isTold p1 y).bind fun q1 => if q1 = 0 then (f_X15_isHeard_31 (1 : Int32) y) else (if g_ok (8 : Int32) 10 = true then (if (y 153 (8 : Int32).toNatClampNeg) = 0 then (f_X15_isHeard_31 (2 : Int32) y) else (f_X15_isHeard_31 (0 : Int32) y)) else none)
def f_X15_distanceTo (p1 : Int32) (y : MS) : Option (Int32 × MS) :=
  (f_X15_isHeard p1 y).bind fun q1 => if q1.1 = 0 then (some (((0 : Int32), q1.2))) else ((f_X15_distance 152 p1 (8 : Int32) q1.2).bind fun q3 => some ((q3.1, q3.2)))
def f_X15_contourTo (p1 : Int32) (y : MS) : Option (Int32 × MS) :=
  (f_X15_isHeard p1 y).bind fun q1 => if q1.1 = 0 then (some (((0 : Int32), q1.2))) else ((f_X15_way 152 p1 (8 : Int32) (1 : Int32) q1.2).bind fun q3 => some ((q3.1 / (100 : Int32), q3.2)))
def f_X15_stepsTo (p1 : Int32) (y : MS) : Option (Int32 × MS) :=
  (f_X15_isHeard p1 y).bind fun q1 => if q1.1 = 0 then (some (((0 : Int32), q1.2))) else ((f_X15_way 152 p1 (8 : Int32) (0 : Int32) q1.2).bind fun q3 => some ((q3.1 - q3.1 / (100 : Int32) * (100 : Int32), q3.2)))
def f_X15_meantWord (y : MS) : Option (Int32 × MS) :=
  (f_X15_meant 152 (-1 : Int32) y).bind fun q1 => if q1.1 = (-1 : Int32) then ((f_X15_no (1 : Int32) q1.2).bind fun q4 => some ((q4.1, q4.2))) else ((f_X15_ok q1.1 q1.2).bind fun q3 => some ((q3.1, q3.2)))
def f_X15_surety_64 (s0 : Int32) (y : MS) : Option (Int32 × MS) :=
  (f_X15_ok s0 y).bind fun q8 => some ((q8.1, q8.2))
def f_X15_surety (y : MS) : Option (Int32 × MS) :=
  (f_X15_meant 152 (-1 : Int32) y).bind fun q1 => if q1.1 = (-1 : Int32) then ((f_X15_no (1 : Int32) q1.2).bind fun q7 => some ((q7.1, q7.2))) else ((f_X15_meant 152 q1.1 q1.2).bind fun q3 => if q3.1 = (-1 : Int32) then (f_X15_surety_64 (-1 : Int32) q3.2) else ((f_X15_distance 152 q3.1 (8 : Int32) q3.2).bind fun q5 => (f_X15_distance 152 q1.1 (8 : Int32) q5.2).bind fun q6 => f_X15_surety_64 (q5.1 - q6.1) q6.2))
def f_X15_hear (p1 : Int32) (y : MS) : Option (Int32 × MS) :=
  (f_X15_isIn p1 (0 : Int32) (40 : Int32)).bind fun q1 => if q1 = 0 then ((f_X15_no (1 : Int32) (g_mi y 120 0 (0 : Int32))).bind fun q11 => some ((q11.1, q11.2))) else (if g_ok (8 : Int32) 10 = true then (if ((g_mi y 120 0 (0 : Int32)) 153 (8 : Int32).toNatClampNeg) = (24 : Int32) then ((f_X15_no (2 : Int32) (g_mi y 120 0 (0 : Int32))).bind fun q10 => some ((q10.1, q10.2))) else (if g_ok (8 : Int32) 10 = true then (if g_ok ((192 : Int32) + ((g_mi y 120 0 (0 : Int32)) 153 (8 : Int32).toNatClampNeg)) 240 = true then (if g_ok (8 : Int32) 10 = true then (if g_ok (8 : Int32) 10 = true then (if g_ok (8 : Int32) 10 = true then (some (((g_mi (g_mi (g_mi y 120 0 (0 : Int32)) 154 ((192 : Int32) + ((g_mi y 120 0 (0 : Int32)) 153 (8 : Int32).toNatClampNeg)).toNatClampNeg p1) 153 (8 : Int32).toNatClampNeg (((g_mi (g_mi y 120 0 (0 : Int32)) 154 ((192 : Int32) + ((g_mi y 120 0 (0 : Int32)) 153 (8 : Int32).toNatClampNeg)).toNatClampNeg p1) 153 (8 : Int32).toNatClampNeg) + (1 : Int32))) 153 (8 : Int32).toNatClampNeg, g_mi (g_mi (g_mi y 120 0 (0 : Int32)) 154 ((192 : Int32) + ((g_mi y 120 0 (0 : Int32)) 153 (8 : Int32).toNatClampNeg)).toNatClampNeg p1) 153 (8 : Int32).toNatClampNeg (((g_mi (g_mi y 120 0 (0 : Int32)) 154 ((192 : Int32) + ((g_mi y 120 0 (0 : Int32)) 153 (8 : Int32).toNatClampNeg)).toNatClampNeg p1) 153 (8 : Int32).toNatClampNeg) + (1 : Int32))))) else none) else none) else none) else none) else none)) else none)
def f_X15_hearWord_57  : Nat → Int32 → Int32 → Int32 → MS → Option (Int32 × MS)
  | 0, _, _, _, _ => none
  | n + 1, l1, l2, l3, y => if g_ok l1 10 = true then (if (y 153 l1.toNatClampNeg) ≤ l3 then (if g_ok (8 : Int32) 10 = true then (some ((y 153 (8 : Int32).toNatClampNeg, y))) else none) else (if g_ok (((24 : Int32) * l1) + l3) 240 = true then ((f_X15_held (y 154 (((24 : Int32) * l1) + l3).toNatClampNeg) l2).bind fun q13 => if g_ok ((192 : Int32) + l3) 240 = true then (f_X15_hearWord_57 n l1 l2 (l3 + (1 : Int32)) (g_mi y 154 ((192 : Int32) + l3).toNatClampNeg q13)) else none) else none)) else none
def f_X15_hearWord (p1 : Int32) (p2 : Int32) (y : MS) : Option (Int32 × MS) :=
  (f_X15_isTold p1 (g_mi y 120 0 (0 : Int32))).bind fun q1 => if q1 = 0 then ((f_X15_no (1 : Int32) (g_mi y 120 0 (0 : Int32))).bind fun q8 => some ((q8.1, q8.2))) else ((f_X15_isIn p2 (-39 : Int32) (39 : Int32)).bind fun q3 => if q3 = 0 then ((f_X15_no (2 : Int32) (g_mi y 120 0 (0 : Int32))).bind fun q7 => some ((q7.1, q7.2))) else (if g_ok p1 10 = true then (if g_ok (8 : Int32) 10 = true then (f_X15_hearWord_57 g_fuel p1 p2 (0 : Int32) (g_mi (g_mi y 120 0 (0 : Int32)) 153 (8 : Int32).toNatClampNeg ((g_mi y 120 0 (0 : Int32)) 153 p1.toNatClampNeg))) else none) else none))
def f_X15_forget (y : MS) : Option (Int32 × MS) :=
  if g_ok (8 : Int32) 10 = true then (if g_ok (8 : Int32) 10 = true then ((f_X15_ok (y 153 (8 : Int32).toNatClampNeg) (g_mi y 153 (8 : Int32).toNatClampNeg (0 : Int32))).bind fun q3 => some ((q3.1, q3.2))) else none) else none
def f_X15_turnPruned (p1 : Int32) (y : MS) : Option (Int32 × MS) :=
  (f_X15_isTold p1 (g_mi y 120 0 (0 : Int32))).bind fun q1 => if q1 = 0 then ((f_X15_isNot (1 : Int32) (g_mi y 120 0 (0 : Int32))).bind fun q7 => if q7.1 = 0 ∨ q7.1 = 1 then (some ((q7.1, q7.2))) else none) else (if g_ok p1 8 = true then (if g_ok p1 8 = true then (if g_ok p1 8 = true then (if ((g_mi (g_mi y 120 0 (0 : Int32)) 155 p1.toNatClampNeg ((1 : Int32) - ((g_mi y 120 0 (0 : Int32)) 155 p1.toNatClampNeg))) 155 p1.toNatClampNeg) = (1 : Int32) then (some (((1 : Int32), g_mi (g_mi y 120 0 (0 : Int32)) 155 p1.toNatClampNeg ((1 : Int32) - ((g_mi y 120 0 (0 : Int32)) 155 p1.toNatClampNeg))))) else (some (((0 : Int32), g_mi (g_mi y 120 0 (0 : Int32)) 155 p1.toNatClampNeg ((1 : Int32) - ((g_mi y 120 0 (0 : Int32)) 155 p1.toNatClampNeg)))))) else none) else none) else none)
def f_X15_pruneNeedless_4  : Nat → Int32 → Int32 → MS → Option (Int32 × MS)
  | 0, _, _, _ => none
  | n + 1, l1, l2, y => if (y 127 2) ≤ l2 then ((f_X15_ok l1 y).bind fun q2 => some ((q2.1, q2.2))) else ((f_X15_needless l2 y).bind fun q3 => if q3.1 = 0 then (f_X15_pruneNeedless_4 n l1 (l2 + (1 : Int32)) q3.2) else (if g_ok l2 8 = true then (f_X15_pruneNeedless_4 n (l1 + (1 : Int32)) (l2 + (1 : Int32)) (g_mi q3.2 155 l2.toNatClampNeg (1 : Int32))) else none))
def f_X15_pruneNeedless (y : MS) : Option (Int32 × MS) :=
  f_X15_pruneNeedless_4 g_fuel (0 : Int32) (0 : Int32) y
def f_X15_passLessons_25  : Nat → Int32 → Int32 → Int32 → MS → Option (Int32 × MS)
  | 0, _, _, _, _ => none
  | n + 1, l1, l2, l3, y => if l1 ≤ l3 then (some ((l2, y))) else ((f_X15_lesson 152 y).bind fun q5 => f_X15_passLessons_25 n l1 (l2 + q5.1) (l3 + (1 : Int32)) q5.2)
def f_X15_passLessons (p1 : Int32) (y : MS) : Option (Int32 × MS) :=
  (f_X15_isIn p1 (1 : Int32) (20 : Int32)).bind fun q1 => if q1 = 0 then ((f_X15_no (1 : Int32) (g_mi y 120 0 (0 : Int32))).bind fun q3 => some ((q3.1, q3.2))) else (f_X15_passLessons_25 g_fuel p1 (0 : Int32) (0 : Int32) (g_mi y 120 0 (0 : Int32)))
def f_X15_keptAfter_34  : Nat → Int32 → Int32 → MS → Option (Int32 × MS)
  | 0, _, _, _ => none
  | n + 1, l1, l2, y => if l1 ≤ l2 then ((f_X15_kept 156 y).bind fun q6 => some ((q6, y))) else ((f_X15_lesson 156 y).bind fun q7 => f_X15_keptAfter_34 n l1 (l2 + (1 : Int32)) q7.2)
def f_X15_keptAfter (p1 : Int32) (y : MS) : Option (Int32 × MS) :=
  (f_X15_isIn p1 (1 : Int32) (20 : Int32)).bind fun q1 => if q1 = 0 then ((f_X15_no (1 : Int32) (g_mi y 120 0 (0 : Int32))).bind fun q4 => some ((q4.1, q4.2))) else ((f_X13_become 156 152 (g_mi y 120 0 (0 : Int32))).bind fun q3 => f_X15_keptAfter_34 g_fuel p1 (0 : Int32) q3)
def f_X15_lessonsUntilMeant_32  : Nat → Int32 → Int32 → MS → Option (Int32 × MS)
  | 0, _, _, _ => none
  | n + 1, l1, l2, y => if (20 : Int32) < l2 then (some (((-1 : Int32), y))) else ((f_X15_meant 156 (-1 : Int32) y).bind fun q6 => if q6.1 = l1 then (some ((l2, q6.2))) else ((f_X15_lesson 156 q6.2).bind fun q8 => f_X15_lessonsUntilMeant_32 n l1 (l2 + (1 : Int32)) q8.2))
def f_X15_lessonsUntilMeant (p1 : Int32) (y : MS) : Option (Int32 × MS) :=
  (f_X15_isTold p1 (g_mi y 120 0 (0 : Int32))).bind fun q1 => if q1 = 0 then ((f_X15_no (1 : Int32) (g_mi y 120 0 (0 : Int32))).bind fun q4 => some ((q4.1, q4.2))) else ((f_X13_become 156 152 (g_mi y 120 0 (0 : Int32))).bind fun q3 => f_X15_lessonsUntilMeant_32 g_fuel p1 (0 : Int32) q3)
def f_X15_bestShift_58 (k39 : Int32 → Int32 → Int32 → Int32 → MS → Option (Int32 × MS)) (k49 : Int32 → Int32 → Int32 → Int32 → Int32 → MS → Option (Int32 × MS)) : Nat → Int32 → Int32 → Int32 → Int32 → Int32 → Int32 → MS → Option (Int32 × MS)
  | 0, _, _, _, _, _, _, _ => none
  | n + 1, l1, l2, l3, l4, l5, l6, y => if g_ok (8 : Int32) 10 = true then (if (y 153 (8 : Int32).toNatClampNeg) ≤ l6 then ((f_X15_distance 152 l1 (9 : Int32) y).bind fun q9 => if q9.1 < l3 then (k49 l1 (l5 * l4) q9.1 l4 (l5 + (-2 : Int32)) q9.2) else (k49 l1 l2 l3 l4 (l5 + (-2 : Int32)) q9.2)) else (if g_ok ((192 : Int32) + l6) 240 = true then ((f_X15_held (y 154 ((192 : Int32) + l6).toNatClampNeg) (l5 * l4)).bind fun q12 => if g_ok ((216 : Int32) + l6) 240 = true then (f_X15_bestShift_58 k39 k49 n l1 l2 l3 l4 l5 (l6 + (1 : Int32)) (g_mi y 154 ((216 : Int32) + l6).toNatClampNeg q12)) else none) else none)) else none
def f_X15_bestShift_49 (k39 : Int32 → Int32 → Int32 → Int32 → MS → Option (Int32 × MS)) : Nat → Int32 → Int32 → Int32 → Int32 → Int32 → MS → Option (Int32 × MS)
  | 0, _, _, _, _, _, _ => none
  | n + 1, l1, l2, l3, l4, l5, y => if l5 < (-1 : Int32) then (k39 l1 l2 l3 (l4 + (1 : Int32)) y) else (f_X15_bestShift_58 k39 (f_X15_bestShift_49 k39 n) g_fuel l1 l2 l3 l4 l5 (0 : Int32) y)
def f_X15_bestShift_39  : Nat → Int32 → Int32 → Int32 → Int32 → MS → Option (Int32 × MS)
  | 0, _, _, _, _, _ => none
  | n + 1, l1, l2, l3, l4, y => if (39 : Int32) < l4 then (some ((l2, y))) else (f_X15_bestShift_49 (f_X15_bestShift_39 n) g_fuel l1 l2 l3 l4 (1 : Int32) y)
def f_X15_bestShift (p1 : Int32) (y : MS) : Option (Int32 × MS) :=
  (f_X15_isHeard p1 y).bind fun q1 => if q1.1 = 0 then (some (((0 : Int32), q1.2))) else (if g_ok (8 : Int32) 10 = true then (if g_ok (9 : Int32) 10 = true then (f_X15_bestShift_39 g_fuel p1 (0 : Int32) (536870912 : Int32) (0 : Int32) (g_mi q1.2 153 (9 : Int32).toNatClampNeg (q1.2 153 (8 : Int32).toNatClampNeg))) else none) else none)
def f_X15_meanLength_9  : Nat → Int32 → Int32 → MS → Option (UInt64 × MS)
  | 0, _, _, _ => none
  | n + 1, l1, l2, y => if (y 127 2) ≤ l2 then (if (y 127 2) = 0 then (some ((FP.dconst0, y))) else (if g_nan (FP.ddiv (FP.i2d l1) (FP.i2d (y 127 2))) = false then (some ((FP.ddiv (FP.i2d l1) (FP.i2d (y 127 2)), y))) else none)) else (if g_ok l2 10 = true then (f_X15_meanLength_9 n (l1 + (y 153 l2.toNatClampNeg)) (l2 + (1 : Int32)) y) else none)
def f_X15_meanLength (y : MS) : Option (UInt64 × MS) :=
  f_X15_meanLength_9 g_fuel (0 : Int32) (0 : Int32) (g_mi y 120 0 (0 : Int32))
theorem md_X1_init : yX1_init.cls ≠ "java/lang/invoke/MethodHandle" ∧ yX1_init.cls ≠ "java/lang/invoke/VarHandle" ∧ (parseMethodDescriptor yX1_init.desc).map (fun d => d.parameters.length) = some 2 := by decide +kernel
theorem md_X1_meantOf : yX1_meantOf.cls ≠ "java/lang/invoke/MethodHandle" ∧ yX1_meantOf.cls ≠ "java/lang/invoke/VarHandle" ∧ (parseMethodDescriptor yX1_meantOf.desc).map (fun d => d.parameters.length) = some 1 := by decide +kernel
theorem md_X1_measureAll : yX1_measureAll.cls ≠ "java/lang/invoke/MethodHandle" ∧ yX1_measureAll.cls ≠ "java/lang/invoke/VarHandle" ∧ (parseMethodDescriptor yX1_measureAll.desc).map (fun d => d.parameters.length) = some 2 := by decide +kernel
theorem md_X1_measure : yX1_measure.cls ≠ "java/lang/invoke/MethodHandle" ∧ yX1_measure.cls ≠ "java/lang/invoke/VarHandle" ∧ (parseMethodDescriptor yX1_measure.desc).map (fun d => d.parameters.length) = some 2 := by decide +kernel
theorem md_X1_passOne : yX1_passOne.cls ≠ "java/lang/invoke/MethodHandle" ∧ yX1_passOne.cls ≠ "java/lang/invoke/VarHandle" ∧ (parseMethodDescriptor yX1_passOne.desc).map (fun d => d.parameters.length) = some 2 := by decide +kernel
theorem md_X1_holds : yX1_holds.cls ≠ "java/lang/invoke/MethodHandle" ∧ yX1_holds.cls ≠ "java/lang/invoke/VarHandle" ∧ (parseMethodDescriptor yX1_holds.desc).map (fun d => d.parameters.length) = some 3 := by decide +kernel
theorem md_X1_changes : yX1_changes.cls ≠ "java/lang/invoke/MethodHandle" ∧ yX1_changes.cls ≠ "java/lang/invoke/VarHandle" ∧ (parseMethodDescriptor yX1_changes.desc).map (fun d => d.parameters.length) = some 3 := by decide +kernel
theorem md_X1_reckon : yX1_reckon.cls ≠ "java/lang/invoke/MethodHandle" ∧ yX1_reckon.cls ≠ "java/lang/invoke/VarHandle" ∧ (parseMethodDescriptor yX1_reckon.desc).map (fun d => d.parameters.length) = some 4 := by decide +kernel
theorem md_X1_push : yX1_push.cls ≠ "java/lang/invoke/MethodHandle" ∧ yX1_push.cls ≠ "java/lang/invoke/VarHandle" ∧ (parseMethodDescriptor yX1_push.desc).map (fun d => d.parameters.length) = some 1 := by decide +kernel
theorem md_X1_pop : yX1_pop.cls ≠ "java/lang/invoke/MethodHandle" ∧ yX1_pop.cls ≠ "java/lang/invoke/VarHandle" ∧ (parseMethodDescriptor yX1_pop.desc).map (fun d => d.parameters.length) = some 0 := by decide +kernel
theorem md_X1_found : yX1_found.cls ≠ "java/lang/invoke/MethodHandle" ∧ yX1_found.cls ≠ "java/lang/invoke/VarHandle" ∧ (parseMethodDescriptor yX1_found.desc).map (fun d => d.parameters.length) = some 3 := by decide +kernel
theorem md_X1_isJoin : yX1_isJoin.cls ≠ "java/lang/invoke/MethodHandle" ∧ yX1_isJoin.cls ≠ "java/lang/invoke/VarHandle" ∧ (parseMethodDescriptor yX1_isJoin.desc).map (fun d => d.parameters.length) = some 1 := by decide +kernel
theorem md_X1_join : yX1_join.cls ≠ "java/lang/invoke/MethodHandle" ∧ yX1_join.cls ≠ "java/lang/invoke/VarHandle" ∧ (parseMethodDescriptor yX1_join.desc).map (fun d => d.parameters.length) = some 3 := by decide +kernel
theorem md_X1_compares : yX1_compares.cls ≠ "java/lang/invoke/MethodHandle" ∧ yX1_compares.cls ≠ "java/lang/invoke/VarHandle" ∧ (parseMethodDescriptor yX1_compares.desc).map (fun d => d.parameters.length) = some 3 := by decide +kernel
theorem md_X2_init : yX2_init.cls ≠ "java/lang/invoke/MethodHandle" ∧ yX2_init.cls ≠ "java/lang/invoke/VarHandle" ∧ (parseMethodDescriptor yX2_init.desc).map (fun d => d.parameters.length) = some 3 := by decide +kernel
theorem md_X2_readLanguage : yX2_readLanguage.cls ≠ "java/lang/invoke/MethodHandle" ∧ yX2_readLanguage.cls ≠ "java/lang/invoke/VarHandle" ∧ (parseMethodDescriptor yX2_readLanguage.desc).map (fun d => d.parameters.length) = some 0 := by decide +kernel
theorem md_X2_step : yX2_step.cls ≠ "java/lang/invoke/MethodHandle" ∧ yX2_step.cls ≠ "java/lang/invoke/VarHandle" ∧ (parseMethodDescriptor yX2_step.desc).map (fun d => d.parameters.length) = some 0 := by decide +kernel
theorem md_X2_expect : yX2_expect.cls ≠ "java/lang/invoke/MethodHandle" ∧ yX2_expect.cls ≠ "java/lang/invoke/VarHandle" ∧ (parseMethodDescriptor yX2_expect.desc).map (fun d => d.parameters.length) = some 1 := by decide +kernel
theorem md_X2_refuse : yX2_refuse.cls ≠ "java/lang/invoke/MethodHandle" ∧ yX2_refuse.cls ≠ "java/lang/invoke/VarHandle" ∧ (parseMethodDescriptor yX2_refuse.desc).map (fun d => d.parameters.length) = some 0 := by decide +kernel
theorem md_X2_blame : yX2_blame.cls ≠ "java/lang/invoke/MethodHandle" ∧ yX2_blame.cls ≠ "java/lang/invoke/VarHandle" ∧ (parseMethodDescriptor yX2_blame.desc).map (fun d => d.parameters.length) = some 1 := by decide +kernel
theorem md_X2_readWord : yX2_readWord.cls ≠ "java/lang/invoke/MethodHandle" ∧ yX2_readWord.cls ≠ "java/lang/invoke/VarHandle" ∧ (parseMethodDescriptor yX2_readWord.desc).map (fun d => d.parameters.length) = some 0 := by decide +kernel
theorem md_X2_readNewName : yX2_readNewName.cls ≠ "java/lang/invoke/MethodHandle" ∧ yX2_readNewName.cls ≠ "java/lang/invoke/VarHandle" ∧ (parseMethodDescriptor yX2_readNewName.desc).map (fun d => d.parameters.length) = some 0 := by decide +kernel
theorem md_X2_readKnownName : yX2_readKnownName.cls ≠ "java/lang/invoke/MethodHandle" ∧ yX2_readKnownName.cls ≠ "java/lang/invoke/VarHandle" ∧ (parseMethodDescriptor yX2_readKnownName.desc).map (fun d => d.parameters.length) = some 0 := by decide +kernel
theorem md_X2_wordCalled : yX2_wordCalled.cls ≠ "java/lang/invoke/MethodHandle" ∧ yX2_wordCalled.cls ≠ "java/lang/invoke/VarHandle" ∧ (parseMethodDescriptor yX2_wordCalled.desc).map (fun d => d.parameters.length) = some 1 := by decide +kernel
theorem md_X2_readPart : yX2_readPart.cls ≠ "java/lang/invoke/MethodHandle" ∧ yX2_readPart.cls ≠ "java/lang/invoke/VarHandle" ∧ (parseMethodDescriptor yX2_readPart.desc).map (fun d => d.parameters.length) = some 0 := by decide +kernel
theorem md_X2_readNumber : yX2_readNumber.cls ≠ "java/lang/invoke/MethodHandle" ∧ yX2_readNumber.cls ≠ "java/lang/invoke/VarHandle" ∧ (parseMethodDescriptor yX2_readNumber.desc).map (fun d => d.parameters.length) = some 2 := by decide +kernel
theorem md_X2_readRule : yX2_readRule.cls ≠ "java/lang/invoke/MethodHandle" ∧ yX2_readRule.cls ≠ "java/lang/invoke/VarHandle" ∧ (parseMethodDescriptor yX2_readRule.desc).map (fun d => d.parameters.length) = some 0 := by decide +kernel
theorem md_X2_requireDepth : yX2_requireDepth.cls ≠ "java/lang/invoke/MethodHandle" ∧ yX2_requireDepth.cls ≠ "java/lang/invoke/VarHandle" ∧ (parseMethodDescriptor yX2_requireDepth.desc).map (fun d => d.parameters.length) = some 1 := by decide +kernel
theorem md_X2_readTest : yX2_readTest.cls ≠ "java/lang/invoke/MethodHandle" ∧ yX2_readTest.cls ≠ "java/lang/invoke/VarHandle" ∧ (parseMethodDescriptor yX2_readTest.desc).map (fun d => d.parameters.length) = some 1 := by decide +kernel
theorem md_X2_readBoth : yX2_readBoth.cls ≠ "java/lang/invoke/MethodHandle" ∧ yX2_readBoth.cls ≠ "java/lang/invoke/VarHandle" ∧ (parseMethodDescriptor yX2_readBoth.desc).map (fun d => d.parameters.length) = some 1 := by decide +kernel
theorem md_X2_readSingle : yX2_readSingle.cls ≠ "java/lang/invoke/MethodHandle" ∧ yX2_readSingle.cls ≠ "java/lang/invoke/VarHandle" ∧ (parseMethodDescriptor yX2_readSingle.desc).map (fun d => d.parameters.length) = some 1 := by decide +kernel
theorem md_X2_isComparison : yX2_isComparison.cls ≠ "java/lang/invoke/MethodHandle" ∧ yX2_isComparison.cls ≠ "java/lang/invoke/VarHandle" ∧ (parseMethodDescriptor yX2_isComparison.desc).map (fun d => d.parameters.length) = some 0 := by decide +kernel
theorem md_X2_readSum : yX2_readSum.cls ≠ "java/lang/invoke/MethodHandle" ∧ yX2_readSum.cls ≠ "java/lang/invoke/VarHandle" ∧ (parseMethodDescriptor yX2_readSum.desc).map (fun d => d.parameters.length) = some 1 := by decide +kernel
theorem md_X2_readProduct : yX2_readProduct.cls ≠ "java/lang/invoke/MethodHandle" ∧ yX2_readProduct.cls ≠ "java/lang/invoke/VarHandle" ∧ (parseMethodDescriptor yX2_readProduct.desc).map (fun d => d.parameters.length) = some 1 := by decide +kernel
theorem md_X2_readValue : yX2_readValue.cls ≠ "java/lang/invoke/MethodHandle" ∧ yX2_readValue.cls ≠ "java/lang/invoke/VarHandle" ∧ (parseMethodDescriptor yX2_readValue.desc).map (fun d => d.parameters.length) = some 1 := by decide +kernel
theorem md_X2_readChoice : yX2_readChoice.cls ≠ "java/lang/invoke/MethodHandle" ∧ yX2_readChoice.cls ≠ "java/lang/invoke/VarHandle" ∧ (parseMethodDescriptor yX2_readChoice.desc).map (fun d => d.parameters.length) = some 1 := by decide +kernel
theorem md_X3_init : yX3_init.cls ≠ "java/lang/invoke/MethodHandle" ∧ yX3_init.cls ≠ "java/lang/invoke/VarHandle" ∧ (parseMethodDescriptor yX3_init.desc).map (fun d => d.parameters.length) = some 0 := by decide +kernel
theorem md_X3_pitch : yX3_pitch.cls ≠ "java/lang/invoke/MethodHandle" ∧ yX3_pitch.cls ≠ "java/lang/invoke/VarHandle" ∧ (parseMethodDescriptor yX3_pitch.desc).map (fun d => d.parameters.length) = some 1 := by decide +kernel
theorem md_X3_contour : yX3_contour.cls ≠ "java/lang/invoke/MethodHandle" ∧ yX3_contour.cls ≠ "java/lang/invoke/VarHandle" ∧ (parseMethodDescriptor yX3_contour.desc).map (fun d => d.parameters.length) = some 1 := by decide +kernel
theorem md_X3_countSilent : yX3_countSilent.cls ≠ "java/lang/invoke/MethodHandle" ∧ yX3_countSilent.cls ≠ "java/lang/invoke/VarHandle" ∧ (parseMethodDescriptor yX3_countSilent.desc).map (fun d => d.parameters.length) = some 0 := by decide +kernel
theorem md_X3_add : yX3_add.cls ≠ "java/lang/invoke/MethodHandle" ∧ yX3_add.cls ≠ "java/lang/invoke/VarHandle" ∧ (parseMethodDescriptor yX3_add.desc).map (fun d => d.parameters.length) = some 1 := by decide +kernel
theorem md_X3_addGlide : yX3_addGlide.cls ≠ "java/lang/invoke/MethodHandle" ∧ yX3_addGlide.cls ≠ "java/lang/invoke/VarHandle" ∧ (parseMethodDescriptor yX3_addGlide.desc).map (fun d => d.parameters.length) = some 3 := by decide +kernel
theorem md_X3_copyFrom : yX3_copyFrom.cls ≠ "java/lang/invoke/MethodHandle" ∧ yX3_copyFrom.cls ≠ "java/lang/invoke/VarHandle" ∧ (parseMethodDescriptor yX3_copyFrom.desc).map (fun d => d.parameters.length) = some 1 := by decide +kernel
theorem md_X3_traceContour : yX3_traceContour.cls ≠ "java/lang/invoke/MethodHandle" ∧ yX3_traceContour.cls ≠ "java/lang/invoke/VarHandle" ∧ (parseMethodDescriptor yX3_traceContour.desc).map (fun d => d.parameters.length) = some 1 := by decide +kernel
theorem md_X3_shift : yX3_shift.cls ≠ "java/lang/invoke/MethodHandle" ∧ yX3_shift.cls ≠ "java/lang/invoke/VarHandle" ∧ (parseMethodDescriptor yX3_shift.desc).map (fun d => d.parameters.length) = some 1 := by decide +kernel
theorem md_X4_init : yX4_init.cls ≠ "java/lang/invoke/MethodHandle" ∧ yX4_init.cls ≠ "java/lang/invoke/VarHandle" ∧ (parseMethodDescriptor yX4_init.desc).map (fun d => d.parameters.length) = some 0 := by decide +kernel
theorem md_X5_init : yX5_init.cls ≠ "java/lang/invoke/MethodHandle" ∧ yX5_init.cls ≠ "java/lang/invoke/VarHandle" ∧ (parseMethodDescriptor yX5_init.desc).map (fun d => d.parameters.length) = some 0 := by decide +kernel
theorem md_X5_rule : yX5_rule.cls ≠ "java/lang/invoke/MethodHandle" ∧ yX5_rule.cls ≠ "java/lang/invoke/VarHandle" ∧ (parseMethodDescriptor yX5_rule.desc).map (fun d => d.parameters.length) = some 1 := by decide +kernel
theorem md_X5_sign : yX5_sign.cls ≠ "java/lang/invoke/MethodHandle" ∧ yX5_sign.cls ≠ "java/lang/invoke/VarHandle" ∧ (parseMethodDescriptor yX5_sign.desc).map (fun d => d.parameters.length) = some 1 := by decide +kernel
theorem md_X5_value : yX5_value.cls ≠ "java/lang/invoke/MethodHandle" ∧ yX5_value.cls ≠ "java/lang/invoke/VarHandle" ∧ (parseMethodDescriptor yX5_value.desc).map (fun d => d.parameters.length) = some 1 := by decide +kernel
theorem md_X5_clear : yX5_clear.cls ≠ "java/lang/invoke/MethodHandle" ∧ yX5_clear.cls ≠ "java/lang/invoke/VarHandle" ∧ (parseMethodDescriptor yX5_clear.desc).map (fun d => d.parameters.length) = some 0 := by decide +kernel
theorem md_X5_addSign : yX5_addSign.cls ≠ "java/lang/invoke/MethodHandle" ∧ yX5_addSign.cls ≠ "java/lang/invoke/VarHandle" ∧ (parseMethodDescriptor yX5_addSign.desc).map (fun d => d.parameters.length) = some 2 := by decide +kernel
theorem md_X5_addRule : yX5_addRule.cls ≠ "java/lang/invoke/MethodHandle" ∧ yX5_addRule.cls ≠ "java/lang/invoke/VarHandle" ∧ (parseMethodDescriptor yX5_addRule.desc).map (fun d => d.parameters.length) = some 4 := by decide +kernel
theorem md_X7_init : yX7_init.cls ≠ "java/lang/invoke/MethodHandle" ∧ yX7_init.cls ≠ "java/lang/invoke/VarHandle" ∧ (parseMethodDescriptor yX7_init.desc).map (fun d => d.parameters.length) = some 0 := by decide +kernel
theorem md_X7_append : yX7_append.cls ≠ "java/lang/invoke/MethodHandle" ∧ yX7_append.cls ≠ "java/lang/invoke/VarHandle" ∧ (parseMethodDescriptor yX7_append.desc).map (fun d => d.parameters.length) = some 1 := by decide +kernel
theorem md_X7_byteAt : yX7_byteAt.cls ≠ "java/lang/invoke/MethodHandle" ∧ yX7_byteAt.cls ≠ "java/lang/invoke/VarHandle" ∧ (parseMethodDescriptor yX7_byteAt.desc).map (fun d => d.parameters.length) = some 1 := by decide +kernel
theorem md_X7_isLetter : yX7_isLetter.cls ≠ "java/lang/invoke/MethodHandle" ∧ yX7_isLetter.cls ≠ "java/lang/invoke/VarHandle" ∧ (parseMethodDescriptor yX7_isLetter.desc).map (fun d => d.parameters.length) = some 1 := by decide +kernel
theorem md_X7_isDigit : yX7_isDigit.cls ≠ "java/lang/invoke/MethodHandle" ∧ yX7_isDigit.cls ≠ "java/lang/invoke/VarHandle" ∧ (parseMethodDescriptor yX7_isDigit.desc).map (fun d => d.parameters.length) = some 1 := by decide +kernel
theorem md_X7_behindBlanks : yX7_behindBlanks.cls ≠ "java/lang/invoke/MethodHandle" ∧ yX7_behindBlanks.cls ≠ "java/lang/invoke/VarHandle" ∧ (parseMethodDescriptor yX7_behindBlanks.desc).map (fun d => d.parameters.length) = some 1 := by decide +kernel
theorem md_X7_spells : yX7_spells.cls ≠ "java/lang/invoke/MethodHandle" ∧ yX7_spells.cls ≠ "java/lang/invoke/VarHandle" ∧ (parseMethodDescriptor yX7_spells.desc).map (fun d => d.parameters.length) = some 2 := by decide +kernel
theorem md_X7_alike : yX7_alike.cls ≠ "java/lang/invoke/MethodHandle" ∧ yX7_alike.cls ≠ "java/lang/invoke/VarHandle" ∧ (parseMethodDescriptor yX7_alike.desc).map (fun d => d.parameters.length) = some 3 := by decide +kernel
theorem md_X8_init : yX8_init.cls ≠ "java/lang/invoke/MethodHandle" ∧ yX8_init.cls ≠ "java/lang/invoke/VarHandle" ∧ (parseMethodDescriptor yX8_init.desc).map (fun d => d.parameters.length) = some 1 := by decide +kernel
theorem md_X8_sign : yX8_sign.cls ≠ "java/lang/invoke/MethodHandle" ∧ yX8_sign.cls ≠ "java/lang/invoke/VarHandle" ∧ (parseMethodDescriptor yX8_sign.desc).map (fun d => d.parameters.length) = some 1 := by decide +kernel
theorem md_X8_place : yX8_place.cls ≠ "java/lang/invoke/MethodHandle" ∧ yX8_place.cls ≠ "java/lang/invoke/VarHandle" ∧ (parseMethodDescriptor yX8_place.desc).map (fun d => d.parameters.length) = some 1 := by decide +kernel
theorem md_X8_size : yX8_size.cls ≠ "java/lang/invoke/MethodHandle" ∧ yX8_size.cls ≠ "java/lang/invoke/VarHandle" ∧ (parseMethodDescriptor yX8_size.desc).map (fun d => d.parameters.length) = some 1 := by decide +kernel
theorem md_X8_value : yX8_value.cls ≠ "java/lang/invoke/MethodHandle" ∧ yX8_value.cls ≠ "java/lang/invoke/VarHandle" ∧ (parseMethodDescriptor yX8_value.desc).map (fun d => d.parameters.length) = some 1 := by decide +kernel
theorem md_X8_readTape : yX8_readTape.cls ≠ "java/lang/invoke/MethodHandle" ∧ yX8_readTape.cls ≠ "java/lang/invoke/VarHandle" ∧ (parseMethodDescriptor yX8_readTape.desc).map (fun d => d.parameters.length) = some 0 := by decide +kernel
theorem md_X8_readToken : yX8_readToken.cls ≠ "java/lang/invoke/MethodHandle" ∧ yX8_readToken.cls ≠ "java/lang/invoke/VarHandle" ∧ (parseMethodDescriptor yX8_readToken.desc).map (fun d => d.parameters.length) = some 1 := by decide +kernel
theorem md_X8_add : yX8_add.cls ≠ "java/lang/invoke/MethodHandle" ∧ yX8_add.cls ≠ "java/lang/invoke/VarHandle" ∧ (parseMethodDescriptor yX8_add.desc).map (fun d => d.parameters.length) = some 4 := by decide +kernel
theorem md_X8_readWord : yX8_readWord.cls ≠ "java/lang/invoke/MethodHandle" ∧ yX8_readWord.cls ≠ "java/lang/invoke/VarHandle" ∧ (parseMethodDescriptor yX8_readWord.desc).map (fun d => d.parameters.length) = some 1 := by decide +kernel
theorem md_X8_readNumber : yX8_readNumber.cls ≠ "java/lang/invoke/MethodHandle" ∧ yX8_readNumber.cls ≠ "java/lang/invoke/VarHandle" ∧ (parseMethodDescriptor yX8_readNumber.desc).map (fun d => d.parameters.length) = some 1 := by decide +kernel
theorem md_X8_readSymbol : yX8_readSymbol.cls ≠ "java/lang/invoke/MethodHandle" ∧ yX8_readSymbol.cls ≠ "java/lang/invoke/VarHandle" ∧ (parseMethodDescriptor yX8_readSymbol.desc).map (fun d => d.parameters.length) = some 1 := by decide +kernel
theorem md_X8_longestSpelled : yX8_longestSpelled.cls ≠ "java/lang/invoke/MethodHandle" ∧ yX8_longestSpelled.cls ≠ "java/lang/invoke/VarHandle" ∧ (parseMethodDescriptor yX8_longestSpelled.desc).map (fun d => d.parameters.length) = some 1 := by decide +kernel
theorem md_X8_firstAlike : yX8_firstAlike.cls ≠ "java/lang/invoke/MethodHandle" ∧ yX8_firstAlike.cls ≠ "java/lang/invoke/VarHandle" ∧ (parseMethodDescriptor yX8_firstAlike.desc).map (fun d => d.parameters.length) = some 2 := by decide +kernel
theorem md_X9_init : yX9_init.cls ≠ "java/lang/invoke/MethodHandle" ∧ yX9_init.cls ≠ "java/lang/invoke/VarHandle" ∧ (parseMethodDescriptor yX9_init.desc).map (fun d => d.parameters.length) = some 0 := by decide +kernel
theorem md_X9_word : yX9_word.cls ≠ "java/lang/invoke/MethodHandle" ∧ yX9_word.cls ≠ "java/lang/invoke/VarHandle" ∧ (parseMethodDescriptor yX9_word.desc).map (fun d => d.parameters.length) = some 1 := by decide +kernel
theorem md_X9_clear : yX9_clear.cls ≠ "java/lang/invoke/MethodHandle" ∧ yX9_clear.cls ≠ "java/lang/invoke/VarHandle" ∧ (parseMethodDescriptor yX9_clear.desc).map (fun d => d.parameters.length) = some 0 := by decide +kernel
theorem md_X9_addWord : yX9_addWord.cls ≠ "java/lang/invoke/MethodHandle" ∧ yX9_addWord.cls ≠ "java/lang/invoke/VarHandle" ∧ (parseMethodDescriptor yX9_addWord.desc).map (fun d => d.parameters.length) = some 0 := by decide +kernel
theorem md_X9_copyFrom : yX9_copyFrom.cls ≠ "java/lang/invoke/MethodHandle" ∧ yX9_copyFrom.cls ≠ "java/lang/invoke/VarHandle" ∧ (parseMethodDescriptor yX9_copyFrom.desc).map (fun d => d.parameters.length) = some 1 := by decide +kernel
theorem md_X9_countKept : yX9_countKept.cls ≠ "java/lang/invoke/MethodHandle" ∧ yX9_countKept.cls ≠ "java/lang/invoke/VarHandle" ∧ (parseMethodDescriptor yX9_countKept.desc).map (fun d => d.parameters.length) = some 0 := by decide +kernel
theorem md_X9_closestKept : yX9_closestKept.cls ≠ "java/lang/invoke/MethodHandle" ∧ yX9_closestKept.cls ≠ "java/lang/invoke/VarHandle" ∧ (parseMethodDescriptor yX9_closestKept.desc).map (fun d => d.parameters.length) = some 1 := by decide +kernel
theorem md_X10_init : yX10_init.cls ≠ "java/lang/invoke/MethodHandle" ∧ yX10_init.cls ≠ "java/lang/invoke/VarHandle" ∧ (parseMethodDescriptor yX10_init.desc).map (fun d => d.parameters.length) = some 0 := by decide +kernel
theorem md_X10_distance : yX10_distance.cls ≠ "java/lang/invoke/MethodHandle" ∧ yX10_distance.cls ≠ "java/lang/invoke/VarHandle" ∧ (parseMethodDescriptor yX10_distance.desc).map (fun d => d.parameters.length) = some 3 := by decide +kernel
theorem md_X10_fewestSteps : yX10_fewestSteps.cls ≠ "java/lang/invoke/MethodHandle" ∧ yX10_fewestSteps.cls ≠ "java/lang/invoke/VarHandle" ∧ (parseMethodDescriptor yX10_fewestSteps.desc).map (fun d => d.parameters.length) = some 3 := by decide +kernel
theorem md_X10_contourDistance : yX10_contourDistance.cls ≠ "java/lang/invoke/MethodHandle" ∧ yX10_contourDistance.cls ≠ "java/lang/invoke/VarHandle" ∧ (parseMethodDescriptor yX10_contourDistance.desc).map (fun d => d.parameters.length) = some 3 := by decide +kernel
theorem md_X10_lightest : yX10_lightest.cls ≠ "java/lang/invoke/MethodHandle" ∧ yX10_lightest.cls ≠ "java/lang/invoke/VarHandle" ∧ (parseMethodDescriptor yX10_lightest.desc).map (fun d => d.parameters.length) = some 4 := by decide +kernel
theorem md_X10_weight : yX10_weight.cls ≠ "java/lang/invoke/MethodHandle" ∧ yX10_weight.cls ≠ "java/lang/invoke/VarHandle" ∧ (parseMethodDescriptor yX10_weight.desc).map (fun d => d.parameters.length) = some 3 := by decide +kernel
theorem md_X11_init : yX11_init.cls ≠ "java/lang/invoke/MethodHandle" ∧ yX11_init.cls ≠ "java/lang/invoke/VarHandle" ∧ (parseMethodDescriptor yX11_init.desc).map (fun d => d.parameters.length) = some 0 := by decide +kernel
theorem md_X12_init : yX12_init.cls ≠ "java/lang/invoke/MethodHandle" ∧ yX12_init.cls ≠ "java/lang/invoke/VarHandle" ∧ (parseMethodDescriptor yX12_init.desc).map (fun d => d.parameters.length) = some 0 := by decide +kernel
theorem md_X12_feed : yX12_feed.cls ≠ "java/lang/invoke/MethodHandle" ∧ yX12_feed.cls ≠ "java/lang/invoke/VarHandle" ∧ (parseMethodDescriptor yX12_feed.desc).map (fun d => d.parameters.length) = some 5 := by decide +kernel
theorem md_X12_trim : yX12_trim.cls ≠ "java/lang/invoke/MethodHandle" ∧ yX12_trim.cls ≠ "java/lang/invoke/VarHandle" ∧ (parseMethodDescriptor yX12_trim.desc).map (fun d => d.parameters.length) = some 1 := by decide +kernel
theorem md_X12_teach : yX12_teach.cls ≠ "java/lang/invoke/MethodHandle" ∧ yX12_teach.cls ≠ "java/lang/invoke/VarHandle" ∧ (parseMethodDescriptor yX12_teach.desc).map (fun d => d.parameters.length) = some 0 := by decide +kernel
theorem md_X12_errorAt : yX12_errorAt.cls ≠ "java/lang/invoke/MethodHandle" ∧ yX12_errorAt.cls ≠ "java/lang/invoke/VarHandle" ∧ (parseMethodDescriptor yX12_errorAt.desc).map (fun d => d.parameters.length) = some 0 := by decide +kernel
theorem md_X12_words : yX12_words.cls ≠ "java/lang/invoke/MethodHandle" ∧ yX12_words.cls ≠ "java/lang/invoke/VarHandle" ∧ (parseMethodDescriptor yX12_words.desc).map (fun d => d.parameters.length) = some 0 := by decide +kernel
theorem md_X12_keptWords : yX12_keptWords.cls ≠ "java/lang/invoke/MethodHandle" ∧ yX12_keptWords.cls ≠ "java/lang/invoke/VarHandle" ∧ (parseMethodDescriptor yX12_keptWords.desc).map (fun d => d.parameters.length) = some 0 := by decide +kernel
theorem md_X12_rules : yX12_rules.cls ≠ "java/lang/invoke/MethodHandle" ∧ yX12_rules.cls ≠ "java/lang/invoke/VarHandle" ∧ (parseMethodDescriptor yX12_rules.desc).map (fun d => d.parameters.length) = some 0 := by decide +kernel
theorem md_X12_lessons : yX12_lessons.cls ≠ "java/lang/invoke/MethodHandle" ∧ yX12_lessons.cls ≠ "java/lang/invoke/VarHandle" ∧ (parseMethodDescriptor yX12_lessons.desc).map (fun d => d.parameters.length) = some 0 := by decide +kernel
theorem md_X12_rulesCarriedOut : yX12_rulesCarriedOut.cls ≠ "java/lang/invoke/MethodHandle" ∧ yX12_rulesCarriedOut.cls ≠ "java/lang/invoke/VarHandle" ∧ (parseMethodDescriptor yX12_rulesCarriedOut.desc).map (fun d => d.parameters.length) = some 0 := by decide +kernel
theorem md_X12_heardBeats : yX12_heardBeats.cls ≠ "java/lang/invoke/MethodHandle" ∧ yX12_heardBeats.cls ≠ "java/lang/invoke/VarHandle" ∧ (parseMethodDescriptor yX12_heardBeats.desc).map (fun d => d.parameters.length) = some 0 := by decide +kernel
theorem md_X12_lengthOf : yX12_lengthOf.cls ≠ "java/lang/invoke/MethodHandle" ∧ yX12_lengthOf.cls ≠ "java/lang/invoke/VarHandle" ∧ (parseMethodDescriptor yX12_lengthOf.desc).map (fun d => d.parameters.length) = some 1 := by decide +kernel
theorem md_X12_pitchAt : yX12_pitchAt.cls ≠ "java/lang/invoke/MethodHandle" ∧ yX12_pitchAt.cls ≠ "java/lang/invoke/VarHandle" ∧ (parseMethodDescriptor yX12_pitchAt.desc).map (fun d => d.parameters.length) = some 2 := by decide +kernel
theorem md_X12_contourAt : yX12_contourAt.cls ≠ "java/lang/invoke/MethodHandle" ∧ yX12_contourAt.cls ≠ "java/lang/invoke/VarHandle" ∧ (parseMethodDescriptor yX12_contourAt.desc).map (fun d => d.parameters.length) = some 2 := by decide +kernel
theorem md_X12_isPruned : yX12_isPruned.cls ≠ "java/lang/invoke/MethodHandle" ∧ yX12_isPruned.cls ≠ "java/lang/invoke/VarHandle" ∧ (parseMethodDescriptor yX12_isPruned.desc).map (fun d => d.parameters.length) = some 1 := by decide +kernel
theorem md_X12_silentBeats : yX12_silentBeats.cls ≠ "java/lang/invoke/MethodHandle" ∧ yX12_silentBeats.cls ≠ "java/lang/invoke/VarHandle" ∧ (parseMethodDescriptor yX12_silentBeats.desc).map (fun d => d.parameters.length) = some 1 := by decide +kernel
theorem md_X12_distanceBetween : yX12_distanceBetween.cls ≠ "java/lang/invoke/MethodHandle" ∧ yX12_distanceBetween.cls ≠ "java/lang/invoke/VarHandle" ∧ (parseMethodDescriptor yX12_distanceBetween.desc).map (fun d => d.parameters.length) = some 2 := by decide +kernel
theorem md_X12_contourBetween : yX12_contourBetween.cls ≠ "java/lang/invoke/MethodHandle" ∧ yX12_contourBetween.cls ≠ "java/lang/invoke/VarHandle" ∧ (parseMethodDescriptor yX12_contourBetween.desc).map (fun d => d.parameters.length) = some 2 := by decide +kernel
theorem md_X12_areNear : yX12_areNear.cls ≠ "java/lang/invoke/MethodHandle" ∧ yX12_areNear.cls ≠ "java/lang/invoke/VarHandle" ∧ (parseMethodDescriptor yX12_areNear.desc).map (fun d => d.parameters.length) = some 2 := by decide +kernel
theorem md_X12_nearestTo : yX12_nearestTo.cls ≠ "java/lang/invoke/MethodHandle" ∧ yX12_nearestTo.cls ≠ "java/lang/invoke/VarHandle" ∧ (parseMethodDescriptor yX12_nearestTo.desc).map (fun d => d.parameters.length) = some 1 := by decide +kernel
theorem md_X12_isNeedless : yX12_isNeedless.cls ≠ "java/lang/invoke/MethodHandle" ∧ yX12_isNeedless.cls ≠ "java/lang/invoke/VarHandle" ∧ (parseMethodDescriptor yX12_isNeedless.desc).map (fun d => d.parameters.length) = some 1 := by decide +kernel
theorem md_X12_heardPitch : yX12_heardPitch.cls ≠ "java/lang/invoke/MethodHandle" ∧ yX12_heardPitch.cls ≠ "java/lang/invoke/VarHandle" ∧ (parseMethodDescriptor yX12_heardPitch.desc).map (fun d => d.parameters.length) = some 1 := by decide +kernel
theorem md_X12_distanceTo : yX12_distanceTo.cls ≠ "java/lang/invoke/MethodHandle" ∧ yX12_distanceTo.cls ≠ "java/lang/invoke/VarHandle" ∧ (parseMethodDescriptor yX12_distanceTo.desc).map (fun d => d.parameters.length) = some 1 := by decide +kernel
theorem md_X12_contourTo : yX12_contourTo.cls ≠ "java/lang/invoke/MethodHandle" ∧ yX12_contourTo.cls ≠ "java/lang/invoke/VarHandle" ∧ (parseMethodDescriptor yX12_contourTo.desc).map (fun d => d.parameters.length) = some 1 := by decide +kernel
theorem md_X12_stepsTo : yX12_stepsTo.cls ≠ "java/lang/invoke/MethodHandle" ∧ yX12_stepsTo.cls ≠ "java/lang/invoke/VarHandle" ∧ (parseMethodDescriptor yX12_stepsTo.desc).map (fun d => d.parameters.length) = some 1 := by decide +kernel
theorem md_X12_meantWord : yX12_meantWord.cls ≠ "java/lang/invoke/MethodHandle" ∧ yX12_meantWord.cls ≠ "java/lang/invoke/VarHandle" ∧ (parseMethodDescriptor yX12_meantWord.desc).map (fun d => d.parameters.length) = some 0 := by decide +kernel
theorem md_X12_surety : yX12_surety.cls ≠ "java/lang/invoke/MethodHandle" ∧ yX12_surety.cls ≠ "java/lang/invoke/VarHandle" ∧ (parseMethodDescriptor yX12_surety.desc).map (fun d => d.parameters.length) = some 0 := by decide +kernel
theorem md_X12_hear : yX12_hear.cls ≠ "java/lang/invoke/MethodHandle" ∧ yX12_hear.cls ≠ "java/lang/invoke/VarHandle" ∧ (parseMethodDescriptor yX12_hear.desc).map (fun d => d.parameters.length) = some 1 := by decide +kernel
theorem md_X12_hearWord : yX12_hearWord.cls ≠ "java/lang/invoke/MethodHandle" ∧ yX12_hearWord.cls ≠ "java/lang/invoke/VarHandle" ∧ (parseMethodDescriptor yX12_hearWord.desc).map (fun d => d.parameters.length) = some 2 := by decide +kernel
theorem md_X12_forget : yX12_forget.cls ≠ "java/lang/invoke/MethodHandle" ∧ yX12_forget.cls ≠ "java/lang/invoke/VarHandle" ∧ (parseMethodDescriptor yX12_forget.desc).map (fun d => d.parameters.length) = some 0 := by decide +kernel
theorem md_X12_turnPruned : yX12_turnPruned.cls ≠ "java/lang/invoke/MethodHandle" ∧ yX12_turnPruned.cls ≠ "java/lang/invoke/VarHandle" ∧ (parseMethodDescriptor yX12_turnPruned.desc).map (fun d => d.parameters.length) = some 1 := by decide +kernel
theorem md_X12_pruneNeedless : yX12_pruneNeedless.cls ≠ "java/lang/invoke/MethodHandle" ∧ yX12_pruneNeedless.cls ≠ "java/lang/invoke/VarHandle" ∧ (parseMethodDescriptor yX12_pruneNeedless.desc).map (fun d => d.parameters.length) = some 0 := by decide +kernel
theorem md_X12_passLessons : yX12_passLessons.cls ≠ "java/lang/invoke/MethodHandle" ∧ yX12_passLessons.cls ≠ "java/lang/invoke/VarHandle" ∧ (parseMethodDescriptor yX12_passLessons.desc).map (fun d => d.parameters.length) = some 1 := by decide +kernel
theorem md_X12_keptAfter : yX12_keptAfter.cls ≠ "java/lang/invoke/MethodHandle" ∧ yX12_keptAfter.cls ≠ "java/lang/invoke/VarHandle" ∧ (parseMethodDescriptor yX12_keptAfter.desc).map (fun d => d.parameters.length) = some 1 := by decide +kernel
theorem md_X12_lessonsUntilMeant : yX12_lessonsUntilMeant.cls ≠ "java/lang/invoke/MethodHandle" ∧ yX12_lessonsUntilMeant.cls ≠ "java/lang/invoke/VarHandle" ∧ (parseMethodDescriptor yX12_lessonsUntilMeant.desc).map (fun d => d.parameters.length) = some 1 := by decide +kernel
theorem md_X12_bestShift : yX12_bestShift.cls ≠ "java/lang/invoke/MethodHandle" ∧ yX12_bestShift.cls ≠ "java/lang/invoke/VarHandle" ∧ (parseMethodDescriptor yX12_bestShift.desc).map (fun d => d.parameters.length) = some 1 := by decide +kernel
theorem md_X12_meanLength : yX12_meanLength.cls ≠ "java/lang/invoke/MethodHandle" ∧ yX12_meanLength.cls ≠ "java/lang/invoke/VarHandle" ∧ (parseMethodDescriptor yX12_meanLength.desc).map (fun d => d.parameters.length) = some 0 := by decide +kernel
theorem md_X12_digest : yX12_digest.cls ≠ "java/lang/invoke/MethodHandle" ∧ yX12_digest.cls ≠ "java/lang/invoke/VarHandle" ∧ (parseMethodDescriptor yX12_digest.desc).map (fun d => d.parameters.length) = some 0 := by decide +kernel
theorem md_X12_requireWord : yX12_requireWord.cls ≠ "java/lang/invoke/MethodHandle" ∧ yX12_requireWord.cls ≠ "java/lang/invoke/VarHandle" ∧ (parseMethodDescriptor yX12_requireWord.desc).map (fun d => d.parameters.length) = some 1 := by decide +kernel
theorem md_X12_requireBeat : yX12_requireBeat.cls ≠ "java/lang/invoke/MethodHandle" ∧ yX12_requireBeat.cls ≠ "java/lang/invoke/VarHandle" ∧ (parseMethodDescriptor yX12_requireBeat.desc).map (fun d => d.parameters.length) = some 2 := by decide +kernel
theorem md_X12_requireSomeHeard : yX12_requireSomeHeard.cls ≠ "java/lang/invoke/MethodHandle" ∧ yX12_requireSomeHeard.cls ≠ "java/lang/invoke/VarHandle" ∧ (parseMethodDescriptor yX12_requireSomeHeard.desc).map (fun d => d.parameters.length) = some 0 := by decide +kernel
theorem md_X12_requireMeant : yX12_requireMeant.cls ≠ "java/lang/invoke/MethodHandle" ∧ yX12_requireMeant.cls ≠ "java/lang/invoke/VarHandle" ∧ (parseMethodDescriptor yX12_requireMeant.desc).map (fun d => d.parameters.length) = some 1 := by decide +kernel
theorem md_X12_requireLessons : yX12_requireLessons.cls ≠ "java/lang/invoke/MethodHandle" ∧ yX12_requireLessons.cls ≠ "java/lang/invoke/VarHandle" ∧ (parseMethodDescriptor yX12_requireLessons.desc).map (fun d => d.parameters.length) = some 1 := by decide +kernel
theorem md_X12_beginAnew : yX12_beginAnew.cls ≠ "java/lang/invoke/MethodHandle" ∧ yX12_beginAnew.cls ≠ "java/lang/invoke/VarHandle" ∧ (parseMethodDescriptor yX12_beginAnew.desc).map (fun d => d.parameters.length) = some 0 := by decide +kernel
theorem md_X12_rowOf : yX12_rowOf.cls ≠ "java/lang/invoke/MethodHandle" ∧ yX12_rowOf.cls ≠ "java/lang/invoke/VarHandle" ∧ (parseMethodDescriptor yX12_rowOf.desc).map (fun d => d.parameters.length) = some 1 := by decide +kernel
theorem md_X12_wordsApart : yX12_wordsApart.cls ≠ "java/lang/invoke/MethodHandle" ∧ yX12_wordsApart.cls ≠ "java/lang/invoke/VarHandle" ∧ (parseMethodDescriptor yX12_wordsApart.desc).map (fun d => d.parameters.length) = some 2 := by decide +kernel
theorem md_X12_nearEachOther : yX12_nearEachOther.cls ≠ "java/lang/invoke/MethodHandle" ∧ yX12_nearEachOther.cls ≠ "java/lang/invoke/VarHandle" ∧ (parseMethodDescriptor yX12_nearEachOther.desc).map (fun d => d.parameters.length) = some 2 := by decide +kernel
theorem md_X12_needless : yX12_needless.cls ≠ "java/lang/invoke/MethodHandle" ∧ yX12_needless.cls ≠ "java/lang/invoke/VarHandle" ∧ (parseMethodDescriptor yX12_needless.desc).map (fun d => d.parameters.length) = some 1 := by decide +kernel
theorem md_X12_distanceIfShifted : yX12_distanceIfShifted.cls ≠ "java/lang/invoke/MethodHandle" ∧ yX12_distanceIfShifted.cls ≠ "java/lang/invoke/VarHandle" ∧ (parseMethodDescriptor yX12_distanceIfShifted.desc).map (fun d => d.parameters.length) = some 2 := by decide +kernel
theorem md_X12_digestOfWord : yX12_digestOfWord.cls ≠ "java/lang/invoke/MethodHandle" ∧ yX12_digestOfWord.cls ≠ "java/lang/invoke/VarHandle" ∧ (parseMethodDescriptor yX12_digestOfWord.desc).map (fun d => d.parameters.length) = some 2 := by decide +kernel
theorem md_X12_digestOfRow : yX12_digestOfRow.cls ≠ "java/lang/invoke/MethodHandle" ∧ yX12_digestOfRow.cls ≠ "java/lang/invoke/VarHandle" ∧ (parseMethodDescriptor yX12_digestOfRow.desc).map (fun d => d.parameters.length) = some 2 := by decide +kernel
theorem md_X12_quotient : yX12_quotient.cls ≠ "java/lang/invoke/MethodHandle" ∧ yX12_quotient.cls ≠ "java/lang/invoke/VarHandle" ∧ (parseMethodDescriptor yX12_quotient.desc).map (fun d => d.parameters.length) = some 2 := by decide +kernel
theorem md_X13_init : yX13_init.cls ≠ "java/lang/invoke/MethodHandle" ∧ yX13_init.cls ≠ "java/lang/invoke/VarHandle" ∧ (parseMethodDescriptor yX13_init.desc).map (fun d => d.parameters.length) = some 0 := by decide +kernel
theorem md_X13_begin : yX13_begin.cls ≠ "java/lang/invoke/MethodHandle" ∧ yX13_begin.cls ≠ "java/lang/invoke/VarHandle" ∧ (parseMethodDescriptor yX13_begin.desc).map (fun d => d.parameters.length) = some 1 := by decide +kernel
theorem md_X13_become : yX13_become.cls ≠ "java/lang/invoke/MethodHandle" ∧ yX13_become.cls ≠ "java/lang/invoke/VarHandle" ∧ (parseMethodDescriptor yX13_become.desc).map (fun d => d.parameters.length) = some 1 := by decide +kernel
theorem md_X14_init : yX14_init.cls ≠ "java/lang/invoke/MethodHandle" ∧ yX14_init.cls ≠ "java/lang/invoke/VarHandle" ∧ (parseMethodDescriptor yX14_init.desc).map (fun d => d.parameters.length) = some 0 := by decide +kernel
theorem md_X14_begin : yX14_begin.cls ≠ "java/lang/invoke/MethodHandle" ∧ yX14_begin.cls ≠ "java/lang/invoke/VarHandle" ∧ (parseMethodDescriptor yX14_begin.desc).map (fun d => d.parameters.length) = some 0 := by decide +kernel
theorem md_X14_become : yX14_become.cls ≠ "java/lang/invoke/MethodHandle" ∧ yX14_become.cls ≠ "java/lang/invoke/VarHandle" ∧ (parseMethodDescriptor yX14_become.desc).map (fun d => d.parameters.length) = some 1 := by decide +kernel
theorem md_X15_init : yX15_init.cls ≠ "java/lang/invoke/MethodHandle" ∧ yX15_init.cls ≠ "java/lang/invoke/VarHandle" ∧ (parseMethodDescriptor yX15_init.desc).map (fun d => d.parameters.length) = some 0 := by decide +kernel
theorem md_X15_thrown : yX15_thrown.cls ≠ "java/lang/invoke/MethodHandle" ∧ yX15_thrown.cls ≠ "java/lang/invoke/VarHandle" ∧ (parseMethodDescriptor yX15_thrown.desc).map (fun d => d.parameters.length) = some 0 := by decide +kernel
theorem md_X15_no : yX15_no.cls ≠ "java/lang/invoke/MethodHandle" ∧ yX15_no.cls ≠ "java/lang/invoke/VarHandle" ∧ (parseMethodDescriptor yX15_no.desc).map (fun d => d.parameters.length) = some 1 := by decide +kernel
theorem md_X15_isNot : yX15_isNot.cls ≠ "java/lang/invoke/MethodHandle" ∧ yX15_isNot.cls ≠ "java/lang/invoke/VarHandle" ∧ (parseMethodDescriptor yX15_isNot.desc).map (fun d => d.parameters.length) = some 1 := by decide +kernel
theorem md_X15_ok : yX15_ok.cls ≠ "java/lang/invoke/MethodHandle" ∧ yX15_ok.cls ≠ "java/lang/invoke/VarHandle" ∧ (parseMethodDescriptor yX15_ok.desc).map (fun d => d.parameters.length) = some 1 := by decide +kernel
theorem md_X15_isIn : yX15_isIn.cls ≠ "java/lang/invoke/MethodHandle" ∧ yX15_isIn.cls ≠ "java/lang/invoke/VarHandle" ∧ (parseMethodDescriptor yX15_isIn.desc).map (fun d => d.parameters.length) = some 3 := by decide +kernel
theorem md_X15_isLetter : yX15_isLetter.cls ≠ "java/lang/invoke/MethodHandle" ∧ yX15_isLetter.cls ≠ "java/lang/invoke/VarHandle" ∧ (parseMethodDescriptor yX15_isLetter.desc).map (fun d => d.parameters.length) = some 1 := by decide +kernel
theorem md_X15_isDigit : yX15_isDigit.cls ≠ "java/lang/invoke/MethodHandle" ∧ yX15_isDigit.cls ≠ "java/lang/invoke/VarHandle" ∧ (parseMethodDescriptor yX15_isDigit.desc).map (fun d => d.parameters.length) = some 1 := by decide +kernel
theorem md_X15_byteAt : yX15_byteAt.cls ≠ "java/lang/invoke/MethodHandle" ∧ yX15_byteAt.cls ≠ "java/lang/invoke/VarHandle" ∧ (parseMethodDescriptor yX15_byteAt.desc).map (fun d => d.parameters.length) = some 1 := by decide +kernel
theorem md_X15_isWord : yX15_isWord.cls ≠ "java/lang/invoke/MethodHandle" ∧ yX15_isWord.cls ≠ "java/lang/invoke/VarHandle" ∧ (parseMethodDescriptor yX15_isWord.desc).map (fun d => d.parameters.length) = some 3 := by decide +kernel
theorem md_X15_keyword : yX15_keyword.cls ≠ "java/lang/invoke/MethodHandle" ∧ yX15_keyword.cls ≠ "java/lang/invoke/VarHandle" ∧ (parseMethodDescriptor yX15_keyword.desc).map (fun d => d.parameters.length) = some 2 := by decide +kernel
theorem md_X15_symbol : yX15_symbol.cls ≠ "java/lang/invoke/MethodHandle" ∧ yX15_symbol.cls ≠ "java/lang/invoke/VarHandle" ∧ (parseMethodDescriptor yX15_symbol.desc).map (fun d => d.parameters.length) = some 1 := by decide +kernel
theorem md_X15_read : yX15_read.cls ≠ "java/lang/invoke/MethodHandle" ∧ yX15_read.cls ≠ "java/lang/invoke/VarHandle" ∧ (parseMethodDescriptor yX15_read.desc).map (fun d => d.parameters.length) = some 2 := by decide +kernel
theorem md_X15_skip : yX15_skip.cls ≠ "java/lang/invoke/MethodHandle" ∧ yX15_skip.cls ≠ "java/lang/invoke/VarHandle" ∧ (parseMethodDescriptor yX15_skip.desc).map (fun d => d.parameters.length) = some 1 := by decide +kernel
theorem md_X15_readAll : yX15_readAll.cls ≠ "java/lang/invoke/MethodHandle" ∧ yX15_readAll.cls ≠ "java/lang/invoke/VarHandle" ∧ (parseMethodDescriptor yX15_readAll.desc).map (fun d => d.parameters.length) = some 0 := by decide +kernel
theorem md_X15_is : yX15_is.cls ≠ "java/lang/invoke/MethodHandle" ∧ yX15_is.cls ≠ "java/lang/invoke/VarHandle" ∧ (parseMethodDescriptor yX15_is.desc).map (fun d => d.parameters.length) = some 1 := by decide +kernel
theorem md_X15_wrong : yX15_wrong.cls ≠ "java/lang/invoke/MethodHandle" ∧ yX15_wrong.cls ≠ "java/lang/invoke/VarHandle" ∧ (parseMethodDescriptor yX15_wrong.desc).map (fun d => d.parameters.length) = some 0 := by decide +kernel
theorem md_X15_take : yX15_take.cls ≠ "java/lang/invoke/MethodHandle" ∧ yX15_take.cls ≠ "java/lang/invoke/VarHandle" ∧ (parseMethodDescriptor yX15_take.desc).map (fun d => d.parameters.length) = some 1 := by decide +kernel
theorem md_X15_takes : yX15_takes.cls ≠ "java/lang/invoke/MethodHandle" ∧ yX15_takes.cls ≠ "java/lang/invoke/VarHandle" ∧ (parseMethodDescriptor yX15_takes.desc).map (fun d => d.parameters.length) = some 1 := by decide +kernel
theorem md_X15_deeper : yX15_deeper.cls ≠ "java/lang/invoke/MethodHandle" ∧ yX15_deeper.cls ≠ "java/lang/invoke/VarHandle" ∧ (parseMethodDescriptor yX15_deeper.desc).map (fun d => d.parameters.length) = some 0 := by decide +kernel
theorem md_X15_mark : yX15_mark.cls ≠ "java/lang/invoke/MethodHandle" ∧ yX15_mark.cls ≠ "java/lang/invoke/VarHandle" ∧ (parseMethodDescriptor yX15_mark.desc).map (fun d => d.parameters.length) = some 1 := by decide +kernel
theorem md_X15_node : yX15_node.cls ≠ "java/lang/invoke/MethodHandle" ∧ yX15_node.cls ≠ "java/lang/invoke/VarHandle" ∧ (parseMethodDescriptor yX15_node.desc).map (fun d => d.parameters.length) = some 3 := by decide +kernel
theorem md_X15_isSameName : yX15_isSameName.cls ≠ "java/lang/invoke/MethodHandle" ∧ yX15_isSameName.cls ≠ "java/lang/invoke/VarHandle" ∧ (parseMethodDescriptor yX15_isSameName.desc).map (fun d => d.parameters.length) = some 2 := by decide +kernel
theorem md_X15_known : yX15_known.cls ≠ "java/lang/invoke/MethodHandle" ∧ yX15_known.cls ≠ "java/lang/invoke/VarHandle" ∧ (parseMethodDescriptor yX15_known.desc).map (fun d => d.parameters.length) = some 0 := by decide +kernel
theorem md_X15_name : yX15_name.cls ≠ "java/lang/invoke/MethodHandle" ∧ yX15_name.cls ≠ "java/lang/invoke/VarHandle" ∧ (parseMethodDescriptor yX15_name.desc).map (fun d => d.parameters.length) = some 0 := by decide +kernel
theorem md_X15_inBrackets : yX15_inBrackets.cls ≠ "java/lang/invoke/MethodHandle" ∧ yX15_inBrackets.cls ≠ "java/lang/invoke/VarHandle" ∧ (parseMethodDescriptor yX15_inBrackets.desc).map (fun d => d.parameters.length) = some 0 := by decide +kernel
theorem md_X15_ofTwo : yX15_ofTwo.cls ≠ "java/lang/invoke/MethodHandle" ∧ yX15_ofTwo.cls ≠ "java/lang/invoke/VarHandle" ∧ (parseMethodDescriptor yX15_ofTwo.desc).map (fun d => d.parameters.length) = some 1 := by decide +kernel
theorem md_X15_value : yX15_value.cls ≠ "java/lang/invoke/MethodHandle" ∧ yX15_value.cls ≠ "java/lang/invoke/VarHandle" ∧ (parseMethodDescriptor yX15_value.desc).map (fun d => d.parameters.length) = some 0 := by decide +kernel
theorem md_X15_product : yX15_product.cls ≠ "java/lang/invoke/MethodHandle" ∧ yX15_product.cls ≠ "java/lang/invoke/VarHandle" ∧ (parseMethodDescriptor yX15_product.desc).map (fun d => d.parameters.length) = some 0 := by decide +kernel
theorem md_X15_sum : yX15_sum.cls ≠ "java/lang/invoke/MethodHandle" ∧ yX15_sum.cls ≠ "java/lang/invoke/VarHandle" ∧ (parseMethodDescriptor yX15_sum.desc).map (fun d => d.parameters.length) = some 0 := by decide +kernel
theorem md_X15_comparison : yX15_comparison.cls ≠ "java/lang/invoke/MethodHandle" ∧ yX15_comparison.cls ≠ "java/lang/invoke/VarHandle" ∧ (parseMethodDescriptor yX15_comparison.desc).map (fun d => d.parameters.length) = some 0 := by decide +kernel
theorem md_X15_single : yX15_single.cls ≠ "java/lang/invoke/MethodHandle" ∧ yX15_single.cls ≠ "java/lang/invoke/VarHandle" ∧ (parseMethodDescriptor yX15_single.desc).map (fun d => d.parameters.length) = some 0 := by decide +kernel
theorem md_X15_both : yX15_both.cls ≠ "java/lang/invoke/MethodHandle" ∧ yX15_both.cls ≠ "java/lang/invoke/VarHandle" ∧ (parseMethodDescriptor yX15_both.desc).map (fun d => d.parameters.length) = some 0 := by decide +kernel
theorem md_X15_test : yX15_test.cls ≠ "java/lang/invoke/MethodHandle" ∧ yX15_test.cls ≠ "java/lang/invoke/VarHandle" ∧ (parseMethodDescriptor yX15_test.desc).map (fun d => d.parameters.length) = some 0 := by decide +kernel
theorem md_X15_numberIn : yX15_numberIn.cls ≠ "java/lang/invoke/MethodHandle" ∧ yX15_numberIn.cls ≠ "java/lang/invoke/VarHandle" ∧ (parseMethodDescriptor yX15_numberIn.desc).map (fun d => d.parameters.length) = some 2 := by decide +kernel
theorem md_X15_part : yX15_part.cls ≠ "java/lang/invoke/MethodHandle" ∧ yX15_part.cls ≠ "java/lang/invoke/VarHandle" ∧ (parseMethodDescriptor yX15_part.desc).map (fun d => d.parameters.length) = some 1 := by decide +kernel
theorem md_X15_word : yX15_word.cls ≠ "java/lang/invoke/MethodHandle" ∧ yX15_word.cls ≠ "java/lang/invoke/VarHandle" ∧ (parseMethodDescriptor yX15_word.desc).map (fun d => d.parameters.length) = some 0 := by decide +kernel
theorem md_X15_rule : yX15_rule.cls ≠ "java/lang/invoke/MethodHandle" ∧ yX15_rule.cls ≠ "java/lang/invoke/VarHandle" ∧ (parseMethodDescriptor yX15_rule.desc).map (fun d => d.parameters.length) = some 1 := by decide +kernel
theorem md_X15_line : yX15_line.cls ≠ "java/lang/invoke/MethodHandle" ∧ yX15_line.cls ≠ "java/lang/invoke/VarHandle" ∧ (parseMethodDescriptor yX15_line.desc).map (fun d => d.parameters.length) = some 0 := by decide +kernel
theorem md_X15_feed : yX15_feed.cls ≠ "java/lang/invoke/MethodHandle" ∧ yX15_feed.cls ≠ "java/lang/invoke/VarHandle" ∧ (parseMethodDescriptor yX15_feed.desc).map (fun d => d.parameters.length) = some 5 := by decide +kernel
theorem md_X15_trim : yX15_trim.cls ≠ "java/lang/invoke/MethodHandle" ∧ yX15_trim.cls ≠ "java/lang/invoke/VarHandle" ∧ (parseMethodDescriptor yX15_trim.desc).map (fun d => d.parameters.length) = some 1 := by decide +kernel
theorem md_X15_teach : yX15_teach.cls ≠ "java/lang/invoke/MethodHandle" ∧ yX15_teach.cls ≠ "java/lang/invoke/VarHandle" ∧ (parseMethodDescriptor yX15_teach.desc).map (fun d => d.parameters.length) = some 0 := by decide +kernel
theorem md_X15_errorAt : yX15_errorAt.cls ≠ "java/lang/invoke/MethodHandle" ∧ yX15_errorAt.cls ≠ "java/lang/invoke/VarHandle" ∧ (parseMethodDescriptor yX15_errorAt.desc).map (fun d => d.parameters.length) = some 0 := by decide +kernel
theorem md_X15_contour : yX15_contour.cls ≠ "java/lang/invoke/MethodHandle" ∧ yX15_contour.cls ≠ "java/lang/invoke/VarHandle" ∧ (parseMethodDescriptor yX15_contour.desc).map (fun d => d.parameters.length) = some 3 := by decide +kernel
theorem md_X15_cost : yX15_cost.cls ≠ "java/lang/invoke/MethodHandle" ∧ yX15_cost.cls ≠ "java/lang/invoke/VarHandle" ∧ (parseMethodDescriptor yX15_cost.desc).map (fun d => d.parameters.length) = some 6 := by decide +kernel
theorem md_X15_way : yX15_way.cls ≠ "java/lang/invoke/MethodHandle" ∧ yX15_way.cls ≠ "java/lang/invoke/VarHandle" ∧ (parseMethodDescriptor yX15_way.desc).map (fun d => d.parameters.length) = some 4 := by decide +kernel
theorem md_X15_distance : yX15_distance.cls ≠ "java/lang/invoke/MethodHandle" ∧ yX15_distance.cls ≠ "java/lang/invoke/VarHandle" ∧ (parseMethodDescriptor yX15_distance.desc).map (fun d => d.parameters.length) = some 3 := by decide +kernel
theorem md_X15_meant : yX15_meant.cls ≠ "java/lang/invoke/MethodHandle" ∧ yX15_meant.cls ≠ "java/lang/invoke/VarHandle" ∧ (parseMethodDescriptor yX15_meant.desc).map (fun d => d.parameters.length) = some 2 := by decide +kernel
theorem md_X15_kept : yX15_kept.cls ≠ "java/lang/invoke/MethodHandle" ∧ yX15_kept.cls ≠ "java/lang/invoke/VarHandle" ∧ (parseMethodDescriptor yX15_kept.desc).map (fun d => d.parameters.length) = some 1 := by decide +kernel
theorem md_X15_near : yX15_near.cls ≠ "java/lang/invoke/MethodHandle" ∧ yX15_near.cls ≠ "java/lang/invoke/VarHandle" ∧ (parseMethodDescriptor yX15_near.desc).map (fun d => d.parameters.length) = some 3 := by decide +kernel
theorem md_X15_needless : yX15_needless.cls ≠ "java/lang/invoke/MethodHandle" ∧ yX15_needless.cls ≠ "java/lang/invoke/VarHandle" ∧ (parseMethodDescriptor yX15_needless.desc).map (fun d => d.parameters.length) = some 1 := by decide +kernel
theorem md_X15_reckon : yX15_reckon.cls ≠ "java/lang/invoke/MethodHandle" ∧ yX15_reckon.cls ≠ "java/lang/invoke/VarHandle" ∧ (parseMethodDescriptor yX15_reckon.desc).map (fun d => d.parameters.length) = some 4 := by decide +kernel
theorem md_X15_joined : yX15_joined.cls ≠ "java/lang/invoke/MethodHandle" ∧ yX15_joined.cls ≠ "java/lang/invoke/VarHandle" ∧ (parseMethodDescriptor yX15_joined.desc).map (fun d => d.parameters.length) = some 3 := by decide +kernel
theorem md_X15_held : yX15_held.cls ≠ "java/lang/invoke/MethodHandle" ∧ yX15_held.cls ≠ "java/lang/invoke/VarHandle" ∧ (parseMethodDescriptor yX15_held.desc).map (fun d => d.parameters.length) = some 2 := by decide +kernel
theorem md_X15_isShifted : yX15_isShifted.cls ≠ "java/lang/invoke/MethodHandle" ∧ yX15_isShifted.cls ≠ "java/lang/invoke/VarHandle" ∧ (parseMethodDescriptor yX15_isShifted.desc).map (fun d => d.parameters.length) = some 3 := by decide +kernel
theorem md_X15_carryOut : yX15_carryOut.cls ≠ "java/lang/invoke/MethodHandle" ∧ yX15_carryOut.cls ≠ "java/lang/invoke/VarHandle" ∧ (parseMethodDescriptor yX15_carryOut.desc).map (fun d => d.parameters.length) = some 2 := by decide +kernel
theorem md_X15_lesson : yX15_lesson.cls ≠ "java/lang/invoke/MethodHandle" ∧ yX15_lesson.cls ≠ "java/lang/invoke/VarHandle" ∧ (parseMethodDescriptor yX15_lesson.desc).map (fun d => d.parameters.length) = some 1 := by decide +kernel
theorem md_X15_words : yX15_words.cls ≠ "java/lang/invoke/MethodHandle" ∧ yX15_words.cls ≠ "java/lang/invoke/VarHandle" ∧ (parseMethodDescriptor yX15_words.desc).map (fun d => d.parameters.length) = some 0 := by decide +kernel
theorem md_X15_keptWords : yX15_keptWords.cls ≠ "java/lang/invoke/MethodHandle" ∧ yX15_keptWords.cls ≠ "java/lang/invoke/VarHandle" ∧ (parseMethodDescriptor yX15_keptWords.desc).map (fun d => d.parameters.length) = some 0 := by decide +kernel
theorem md_X15_rules : yX15_rules.cls ≠ "java/lang/invoke/MethodHandle" ∧ yX15_rules.cls ≠ "java/lang/invoke/VarHandle" ∧ (parseMethodDescriptor yX15_rules.desc).map (fun d => d.parameters.length) = some 0 := by decide +kernel
theorem md_X15_lessons : yX15_lessons.cls ≠ "java/lang/invoke/MethodHandle" ∧ yX15_lessons.cls ≠ "java/lang/invoke/VarHandle" ∧ (parseMethodDescriptor yX15_lessons.desc).map (fun d => d.parameters.length) = some 0 := by decide +kernel
theorem md_X15_rulesCarriedOut : yX15_rulesCarriedOut.cls ≠ "java/lang/invoke/MethodHandle" ∧ yX15_rulesCarriedOut.cls ≠ "java/lang/invoke/VarHandle" ∧ (parseMethodDescriptor yX15_rulesCarriedOut.desc).map (fun d => d.parameters.length) = some 0 := by decide +kernel
theorem md_X15_heardBeats : yX15_heardBeats.cls ≠ "java/lang/invoke/MethodHandle" ∧ yX15_heardBeats.cls ≠ "java/lang/invoke/VarHandle" ∧ (parseMethodDescriptor yX15_heardBeats.desc).map (fun d => d.parameters.length) = some 0 := by decide +kernel
theorem md_X15_isTold : yX15_isTold.cls ≠ "java/lang/invoke/MethodHandle" ∧ yX15_isTold.cls ≠ "java/lang/invoke/VarHandle" ∧ (parseMethodDescriptor yX15_isTold.desc).map (fun d => d.parameters.length) = some 1 := by decide +kernel
theorem md_X15_isBeat : yX15_isBeat.cls ≠ "java/lang/invoke/MethodHandle" ∧ yX15_isBeat.cls ≠ "java/lang/invoke/VarHandle" ∧ (parseMethodDescriptor yX15_isBeat.desc).map (fun d => d.parameters.length) = some 2 := by decide +kernel
theorem md_X15_lengthOf : yX15_lengthOf.cls ≠ "java/lang/invoke/MethodHandle" ∧ yX15_lengthOf.cls ≠ "java/lang/invoke/VarHandle" ∧ (parseMethodDescriptor yX15_lengthOf.desc).map (fun d => d.parameters.length) = some 1 := by decide +kernel
theorem md_X15_pitchAt : yX15_pitchAt.cls ≠ "java/lang/invoke/MethodHandle" ∧ yX15_pitchAt.cls ≠ "java/lang/invoke/VarHandle" ∧ (parseMethodDescriptor yX15_pitchAt.desc).map (fun d => d.parameters.length) = some 2 := by decide +kernel
theorem md_X15_contourAt : yX15_contourAt.cls ≠ "java/lang/invoke/MethodHandle" ∧ yX15_contourAt.cls ≠ "java/lang/invoke/VarHandle" ∧ (parseMethodDescriptor yX15_contourAt.desc).map (fun d => d.parameters.length) = some 2 := by decide +kernel
theorem md_X15_isPruned : yX15_isPruned.cls ≠ "java/lang/invoke/MethodHandle" ∧ yX15_isPruned.cls ≠ "java/lang/invoke/VarHandle" ∧ (parseMethodDescriptor yX15_isPruned.desc).map (fun d => d.parameters.length) = some 1 := by decide +kernel
theorem md_X15_silentBeats : yX15_silentBeats.cls ≠ "java/lang/invoke/MethodHandle" ∧ yX15_silentBeats.cls ≠ "java/lang/invoke/VarHandle" ∧ (parseMethodDescriptor yX15_silentBeats.desc).map (fun d => d.parameters.length) = some 1 := by decide +kernel
theorem md_X15_distanceBetween : yX15_distanceBetween.cls ≠ "java/lang/invoke/MethodHandle" ∧ yX15_distanceBetween.cls ≠ "java/lang/invoke/VarHandle" ∧ (parseMethodDescriptor yX15_distanceBetween.desc).map (fun d => d.parameters.length) = some 2 := by decide +kernel
theorem md_X15_contourBetween : yX15_contourBetween.cls ≠ "java/lang/invoke/MethodHandle" ∧ yX15_contourBetween.cls ≠ "java/lang/invoke/VarHandle" ∧ (parseMethodDescriptor yX15_contourBetween.desc).map (fun d => d.parameters.length) = some 2 := by decide +kernel
theorem md_X15_areNear : yX15_areNear.cls ≠ "java/lang/invoke/MethodHandle" ∧ yX15_areNear.cls ≠ "java/lang/invoke/VarHandle" ∧ (parseMethodDescriptor yX15_areNear.desc).map (fun d => d.parameters.length) = some 2 := by decide +kernel
theorem md_X15_nearestTo : yX15_nearestTo.cls ≠ "java/lang/invoke/MethodHandle" ∧ yX15_nearestTo.cls ≠ "java/lang/invoke/VarHandle" ∧ (parseMethodDescriptor yX15_nearestTo.desc).map (fun d => d.parameters.length) = some 1 := by decide +kernel
theorem md_X15_isNeedless : yX15_isNeedless.cls ≠ "java/lang/invoke/MethodHandle" ∧ yX15_isNeedless.cls ≠ "java/lang/invoke/VarHandle" ∧ (parseMethodDescriptor yX15_isNeedless.desc).map (fun d => d.parameters.length) = some 1 := by decide +kernel
theorem md_X15_heardPitch : yX15_heardPitch.cls ≠ "java/lang/invoke/MethodHandle" ∧ yX15_heardPitch.cls ≠ "java/lang/invoke/VarHandle" ∧ (parseMethodDescriptor yX15_heardPitch.desc).map (fun d => d.parameters.length) = some 1 := by decide +kernel
theorem md_X15_isHeard : yX15_isHeard.cls ≠ "java/lang/invoke/MethodHandle" ∧ yX15_isHeard.cls ≠ "java/lang/invoke/VarHandle" ∧ (parseMethodDescriptor yX15_isHeard.desc).map (fun d => d.parameters.length) = some 1 := by decide +kernel
theorem md_X15_distanceTo : yX15_distanceTo.cls ≠ "java/lang/invoke/MethodHandle" ∧ yX15_distanceTo.cls ≠ "java/lang/invoke/VarHandle" ∧ (parseMethodDescriptor yX15_distanceTo.desc).map (fun d => d.parameters.length) = some 1 := by decide +kernel
theorem md_X15_contourTo : yX15_contourTo.cls ≠ "java/lang/invoke/MethodHandle" ∧ yX15_contourTo.cls ≠ "java/lang/invoke/VarHandle" ∧ (parseMethodDescriptor yX15_contourTo.desc).map (fun d => d.parameters.length) = some 1 := by decide +kernel
theorem md_X15_stepsTo : yX15_stepsTo.cls ≠ "java/lang/invoke/MethodHandle" ∧ yX15_stepsTo.cls ≠ "java/lang/invoke/VarHandle" ∧ (parseMethodDescriptor yX15_stepsTo.desc).map (fun d => d.parameters.length) = some 1 := by decide +kernel
theorem md_X15_meantWord : yX15_meantWord.cls ≠ "java/lang/invoke/MethodHandle" ∧ yX15_meantWord.cls ≠ "java/lang/invoke/VarHandle" ∧ (parseMethodDescriptor yX15_meantWord.desc).map (fun d => d.parameters.length) = some 0 := by decide +kernel
theorem md_X15_surety : yX15_surety.cls ≠ "java/lang/invoke/MethodHandle" ∧ yX15_surety.cls ≠ "java/lang/invoke/VarHandle" ∧ (parseMethodDescriptor yX15_surety.desc).map (fun d => d.parameters.length) = some 0 := by decide +kernel
theorem md_X15_hear : yX15_hear.cls ≠ "java/lang/invoke/MethodHandle" ∧ yX15_hear.cls ≠ "java/lang/invoke/VarHandle" ∧ (parseMethodDescriptor yX15_hear.desc).map (fun d => d.parameters.length) = some 1 := by decide +kernel
theorem md_X15_hearWord : yX15_hearWord.cls ≠ "java/lang/invoke/MethodHandle" ∧ yX15_hearWord.cls ≠ "java/lang/invoke/VarHandle" ∧ (parseMethodDescriptor yX15_hearWord.desc).map (fun d => d.parameters.length) = some 2 := by decide +kernel
theorem md_X15_forget : yX15_forget.cls ≠ "java/lang/invoke/MethodHandle" ∧ yX15_forget.cls ≠ "java/lang/invoke/VarHandle" ∧ (parseMethodDescriptor yX15_forget.desc).map (fun d => d.parameters.length) = some 0 := by decide +kernel
theorem md_X15_turnPruned : yX15_turnPruned.cls ≠ "java/lang/invoke/MethodHandle" ∧ yX15_turnPruned.cls ≠ "java/lang/invoke/VarHandle" ∧ (parseMethodDescriptor yX15_turnPruned.desc).map (fun d => d.parameters.length) = some 1 := by decide +kernel
theorem md_X15_pruneNeedless : yX15_pruneNeedless.cls ≠ "java/lang/invoke/MethodHandle" ∧ yX15_pruneNeedless.cls ≠ "java/lang/invoke/VarHandle" ∧ (parseMethodDescriptor yX15_pruneNeedless.desc).map (fun d => d.parameters.length) = some 0 := by decide +kernel
theorem md_X15_passLessons : yX15_passLessons.cls ≠ "java/lang/invoke/MethodHandle" ∧ yX15_passLessons.cls ≠ "java/lang/invoke/VarHandle" ∧ (parseMethodDescriptor yX15_passLessons.desc).map (fun d => d.parameters.length) = some 1 := by decide +kernel
theorem md_X15_keptAfter : yX15_keptAfter.cls ≠ "java/lang/invoke/MethodHandle" ∧ yX15_keptAfter.cls ≠ "java/lang/invoke/VarHandle" ∧ (parseMethodDescriptor yX15_keptAfter.desc).map (fun d => d.parameters.length) = some 1 := by decide +kernel
theorem md_X15_lessonsUntilMeant : yX15_lessonsUntilMeant.cls ≠ "java/lang/invoke/MethodHandle" ∧ yX15_lessonsUntilMeant.cls ≠ "java/lang/invoke/VarHandle" ∧ (parseMethodDescriptor yX15_lessonsUntilMeant.desc).map (fun d => d.parameters.length) = some 1 := by decide +kernel
theorem md_X15_bestShift : yX15_bestShift.cls ≠ "java/lang/invoke/MethodHandle" ∧ yX15_bestShift.cls ≠ "java/lang/invoke/VarHandle" ∧ (parseMethodDescriptor yX15_bestShift.desc).map (fun d => d.parameters.length) = some 1 := by decide +kernel
theorem md_X15_meanLength : yX15_meanLength.cls ≠ "java/lang/invoke/MethodHandle" ∧ yX15_meanLength.cls ≠ "java/lang/invoke/VarHandle" ∧ (parseMethodDescriptor yX15_meanLength.desc).map (fun d => d.parameters.length) = some 0 := by decide +kernel
theorem md_X15_digest : yX15_digest.cls ≠ "java/lang/invoke/MethodHandle" ∧ yX15_digest.cls ≠ "java/lang/invoke/VarHandle" ∧ (parseMethodDescriptor yX15_digest.desc).map (fun d => d.parameters.length) = some 0 := by decide +kernel
theorem md_J0_length_8abf5 : yJ0_length_8abf5.cls ≠ "java/lang/invoke/MethodHandle" ∧ yJ0_length_8abf5.cls ≠ "java/lang/invoke/VarHandle" ∧ (parseMethodDescriptor yJ0_length_8abf5.desc).map (fun d => d.parameters.length) = some 0 := by decide +kernel
theorem md_J0_charAt_5068e : yJ0_charAt_5068e.cls ≠ "java/lang/invoke/MethodHandle" ∧ yJ0_charAt_5068e.cls ≠ "java/lang/invoke/VarHandle" ∧ (parseMethodDescriptor yJ0_charAt_5068e.desc).map (fun d => d.parameters.length) = some 1 := by decide +kernel
theorem md_J0_coder_7d493 : yJ0_coder_7d493.cls ≠ "java/lang/invoke/MethodHandle" ∧ yJ0_coder_7d493.cls ≠ "java/lang/invoke/VarHandle" ∧ (parseMethodDescriptor yJ0_coder_7d493.desc).map (fun d => d.parameters.length) = some 0 := by decide +kernel
theorem md_J0_isLatin1_aae02 : yJ0_isLatin1_aae02.cls ≠ "java/lang/invoke/MethodHandle" ∧ yJ0_isLatin1_aae02.cls ≠ "java/lang/invoke/VarHandle" ∧ (parseMethodDescriptor yJ0_isLatin1_aae02.desc).map (fun d => d.parameters.length) = some 0 := by decide +kernel
theorem md_J1_charAt_3b067 : yJ1_charAt_3b067.cls ≠ "java/lang/invoke/MethodHandle" ∧ yJ1_charAt_3b067.cls ≠ "java/lang/invoke/VarHandle" ∧ (parseMethodDescriptor yJ1_charAt_3b067.desc).map (fun d => d.parameters.length) = some 2 := by decide +kernel
theorem md_J6_signum_0f7a4 : yJ6_signum_0f7a4.cls ≠ "java/lang/invoke/MethodHandle" ∧ yJ6_signum_0f7a4.cls ≠ "java/lang/invoke/VarHandle" ∧ (parseMethodDescriptor yJ6_signum_0f7a4.desc).map (fun d => d.parameters.length) = some 1 := by decide +kernel
theorem md_L_feed : yL_feed.cls ≠ "java/lang/invoke/MethodHandle" ∧ yL_feed.cls ≠ "java/lang/invoke/VarHandle" ∧ (parseMethodDescriptor yL_feed.desc).map (fun d => d.parameters.length) = some 7 := by decide +kernel
theorem md_L_trim : yL_trim.cls ≠ "java/lang/invoke/MethodHandle" ∧ yL_trim.cls ≠ "java/lang/invoke/VarHandle" ∧ (parseMethodDescriptor yL_trim.desc).map (fun d => d.parameters.length) = some 3 := by decide +kernel
theorem md_L_lengthOf : yL_lengthOf.cls ≠ "java/lang/invoke/MethodHandle" ∧ yL_lengthOf.cls ≠ "java/lang/invoke/VarHandle" ∧ (parseMethodDescriptor yL_lengthOf.desc).map (fun d => d.parameters.length) = some 3 := by decide +kernel
theorem md_L_pitchAt : yL_pitchAt.cls ≠ "java/lang/invoke/MethodHandle" ∧ yL_pitchAt.cls ≠ "java/lang/invoke/VarHandle" ∧ (parseMethodDescriptor yL_pitchAt.desc).map (fun d => d.parameters.length) = some 4 := by decide +kernel
theorem md_L_contourAt : yL_contourAt.cls ≠ "java/lang/invoke/MethodHandle" ∧ yL_contourAt.cls ≠ "java/lang/invoke/VarHandle" ∧ (parseMethodDescriptor yL_contourAt.desc).map (fun d => d.parameters.length) = some 4 := by decide +kernel
theorem md_L_isPruned : yL_isPruned.cls ≠ "java/lang/invoke/MethodHandle" ∧ yL_isPruned.cls ≠ "java/lang/invoke/VarHandle" ∧ (parseMethodDescriptor yL_isPruned.desc).map (fun d => d.parameters.length) = some 3 := by decide +kernel
theorem md_L_silentBeats : yL_silentBeats.cls ≠ "java/lang/invoke/MethodHandle" ∧ yL_silentBeats.cls ≠ "java/lang/invoke/VarHandle" ∧ (parseMethodDescriptor yL_silentBeats.desc).map (fun d => d.parameters.length) = some 3 := by decide +kernel
theorem md_L_distanceBetween : yL_distanceBetween.cls ≠ "java/lang/invoke/MethodHandle" ∧ yL_distanceBetween.cls ≠ "java/lang/invoke/VarHandle" ∧ (parseMethodDescriptor yL_distanceBetween.desc).map (fun d => d.parameters.length) = some 4 := by decide +kernel
theorem md_L_contourBetween : yL_contourBetween.cls ≠ "java/lang/invoke/MethodHandle" ∧ yL_contourBetween.cls ≠ "java/lang/invoke/VarHandle" ∧ (parseMethodDescriptor yL_contourBetween.desc).map (fun d => d.parameters.length) = some 4 := by decide +kernel
theorem md_L_areNear : yL_areNear.cls ≠ "java/lang/invoke/MethodHandle" ∧ yL_areNear.cls ≠ "java/lang/invoke/VarHandle" ∧ (parseMethodDescriptor yL_areNear.desc).map (fun d => d.parameters.length) = some 4 := by decide +kernel
theorem md_L_nearestTo : yL_nearestTo.cls ≠ "java/lang/invoke/MethodHandle" ∧ yL_nearestTo.cls ≠ "java/lang/invoke/VarHandle" ∧ (parseMethodDescriptor yL_nearestTo.desc).map (fun d => d.parameters.length) = some 3 := by decide +kernel
theorem md_L_isNeedless : yL_isNeedless.cls ≠ "java/lang/invoke/MethodHandle" ∧ yL_isNeedless.cls ≠ "java/lang/invoke/VarHandle" ∧ (parseMethodDescriptor yL_isNeedless.desc).map (fun d => d.parameters.length) = some 3 := by decide +kernel
theorem md_L_heardPitch : yL_heardPitch.cls ≠ "java/lang/invoke/MethodHandle" ∧ yL_heardPitch.cls ≠ "java/lang/invoke/VarHandle" ∧ (parseMethodDescriptor yL_heardPitch.desc).map (fun d => d.parameters.length) = some 3 := by decide +kernel
theorem md_L_distanceTo : yL_distanceTo.cls ≠ "java/lang/invoke/MethodHandle" ∧ yL_distanceTo.cls ≠ "java/lang/invoke/VarHandle" ∧ (parseMethodDescriptor yL_distanceTo.desc).map (fun d => d.parameters.length) = some 3 := by decide +kernel
theorem md_L_contourTo : yL_contourTo.cls ≠ "java/lang/invoke/MethodHandle" ∧ yL_contourTo.cls ≠ "java/lang/invoke/VarHandle" ∧ (parseMethodDescriptor yL_contourTo.desc).map (fun d => d.parameters.length) = some 3 := by decide +kernel
theorem md_L_stepsTo : yL_stepsTo.cls ≠ "java/lang/invoke/MethodHandle" ∧ yL_stepsTo.cls ≠ "java/lang/invoke/VarHandle" ∧ (parseMethodDescriptor yL_stepsTo.desc).map (fun d => d.parameters.length) = some 3 := by decide +kernel
theorem md_L_meantWord : yL_meantWord.cls ≠ "java/lang/invoke/MethodHandle" ∧ yL_meantWord.cls ≠ "java/lang/invoke/VarHandle" ∧ (parseMethodDescriptor yL_meantWord.desc).map (fun d => d.parameters.length) = some 2 := by decide +kernel
theorem md_L_surety : yL_surety.cls ≠ "java/lang/invoke/MethodHandle" ∧ yL_surety.cls ≠ "java/lang/invoke/VarHandle" ∧ (parseMethodDescriptor yL_surety.desc).map (fun d => d.parameters.length) = some 2 := by decide +kernel
theorem md_L_hear : yL_hear.cls ≠ "java/lang/invoke/MethodHandle" ∧ yL_hear.cls ≠ "java/lang/invoke/VarHandle" ∧ (parseMethodDescriptor yL_hear.desc).map (fun d => d.parameters.length) = some 3 := by decide +kernel
theorem md_L_hearWord : yL_hearWord.cls ≠ "java/lang/invoke/MethodHandle" ∧ yL_hearWord.cls ≠ "java/lang/invoke/VarHandle" ∧ (parseMethodDescriptor yL_hearWord.desc).map (fun d => d.parameters.length) = some 4 := by decide +kernel
theorem md_L_turnPruned : yL_turnPruned.cls ≠ "java/lang/invoke/MethodHandle" ∧ yL_turnPruned.cls ≠ "java/lang/invoke/VarHandle" ∧ (parseMethodDescriptor yL_turnPruned.desc).map (fun d => d.parameters.length) = some 3 := by decide +kernel
theorem md_L_passLessons : yL_passLessons.cls ≠ "java/lang/invoke/MethodHandle" ∧ yL_passLessons.cls ≠ "java/lang/invoke/VarHandle" ∧ (parseMethodDescriptor yL_passLessons.desc).map (fun d => d.parameters.length) = some 3 := by decide +kernel
theorem md_L_keptAfter : yL_keptAfter.cls ≠ "java/lang/invoke/MethodHandle" ∧ yL_keptAfter.cls ≠ "java/lang/invoke/VarHandle" ∧ (parseMethodDescriptor yL_keptAfter.desc).map (fun d => d.parameters.length) = some 3 := by decide +kernel
theorem md_L_lessonsUntilMeant : yL_lessonsUntilMeant.cls ≠ "java/lang/invoke/MethodHandle" ∧ yL_lessonsUntilMeant.cls ≠ "java/lang/invoke/VarHandle" ∧ (parseMethodDescriptor yL_lessonsUntilMeant.desc).map (fun d => d.parameters.length) = some 3 := by decide +kernel
theorem md_L_bestShift : yL_bestShift.cls ≠ "java/lang/invoke/MethodHandle" ∧ yL_bestShift.cls ≠ "java/lang/invoke/VarHandle" ∧ (parseMethodDescriptor yL_bestShift.desc).map (fun d => d.parameters.length) = some 3 := by decide +kernel
theorem g_sw_X1_isJoin_8 {v : Int32} (h0 : ¬ v = (7 : Int32)) (h1 : ¬ v = (8 : Int32)) (h2 : ¬ v = (9 : Int32)) (h3 : ¬ v = (10 : Int32)) (h4 : ¬ v = (11 : Int32)) (h5 : ¬ v = (12 : Int32)) (h6 : ¬ v = (13 : Int32)) (h7 : ¬ v = (14 : Int32)) (h8 : ¬ v = (15 : Int32)) (h9 : ¬ v = (16 : Int32)) (h10 : ¬ v = (17 : Int32)) (h11 : ¬ v = (18 : Int32)) (h12 : ¬ v = (19 : Int32)) : v.toInt < 7 ∨ 19 < v.toInt := by
  have e0 := g_ne h0 (n := 7) (by decide)
  have e1 := g_ne h1 (n := 8) (by decide)
  have e2 := g_ne h2 (n := 9) (by decide)
  have e3 := g_ne h3 (n := 10) (by decide)
  have e4 := g_ne h4 (n := 11) (by decide)
  have e5 := g_ne h5 (n := 12) (by decide)
  have e6 := g_ne h6 (n := 13) (by decide)
  have e7 := g_ne h7 (n := 14) (by decide)
  have e8 := g_ne h8 (n := 15) (by decide)
  have e9 := g_ne h9 (n := 16) (by decide)
  have e10 := g_ne h10 (n := 17) (by decide)
  have e11 := g_ne h11 (n := 18) (by decide)
  have e12 := g_ne h12 (n := 19) (by decide)
  omega
theorem g_sw_X1_compares_8 {v : Int32} (h0 : ¬ v = (15 : Int32)) (h1 : ¬ v = (16 : Int32)) (h2 : ¬ v = (17 : Int32)) (h3 : ¬ v = (18 : Int32)) (h4 : ¬ v = (19 : Int32)) : v.toInt < 15 ∨ 19 < v.toInt := by
  have e0 := g_ne h0 (n := 15) (by decide)
  have e1 := g_ne h1 (n := 16) (by decide)
  have e2 := g_ne h2 (n := 17) (by decide)
  have e3 := g_ne h3 (n := 18) (by decide)
  have e4 := g_ne h4 (n := 19) (by decide)
  omega
theorem g_sw_X1_join_8 {v : Int32} (h0 : ¬ v = (7 : Int32)) (h1 : ¬ v = (8 : Int32)) (h2 : ¬ v = (9 : Int32)) (h3 : ¬ v = (10 : Int32)) (h4 : ¬ v = (11 : Int32)) (h5 : ¬ v = (12 : Int32)) (h6 : ¬ v = (13 : Int32)) (h7 : ¬ v = (14 : Int32)) : v.toInt < 7 ∨ 14 < v.toInt := by
  have e0 := g_ne h0 (n := 7) (by decide)
  have e1 := g_ne h1 (n := 8) (by decide)
  have e2 := g_ne h2 (n := 9) (by decide)
  have e3 := g_ne h3 (n := 10) (by decide)
  have e4 := g_ne h4 (n := 11) (by decide)
  have e5 := g_ne h5 (n := 12) (by decide)
  have e6 := g_ne h6 (n := 13) (by decide)
  have e7 := g_ne h7 (n := 14) (by decide)
  omega
theorem g_sw_X1_found_8 {v : Int32} (h0 : ¬ v = (1 : Int32)) (h1 : ¬ v = (2 : Int32)) (h2 : ¬ v = (3 : Int32)) (h3 : ¬ v = (4 : Int32)) (h4 : ¬ v = (5 : Int32)) (h5 : ¬ v = (6 : Int32)) : v.toInt < 1 ∨ 6 < v.toInt := by
  have e0 := g_ne h0 (n := 1) (by decide)
  have e1 := g_ne h1 (n := 2) (by decide)
  have e2 := g_ne h2 (n := 3) (by decide)
  have e3 := g_ne h3 (n := 4) (by decide)
  have e4 := g_ne h4 (n := 5) (by decide)
  have e5 := g_ne h5 (n := 6) (by decide)
  omega
theorem g_sw_X15_symbol_1 {v : Int32} (h0 : ¬ v = (40 : Int32)) (h1 : ¬ v = (41 : Int32)) (h2 : ¬ v = (42 : Int32)) (h3 : ¬ v = (43 : Int32)) (h4 : ¬ v = (44 : Int32)) (h5 : ¬ v = (45 : Int32)) (h6 : ¬ v = (46 : Int32)) (h7 : ¬ v = (47 : Int32)) (h8 : ¬ v = (48 : Int32)) (h9 : ¬ v = (49 : Int32)) (h10 : ¬ v = (50 : Int32)) (h11 : ¬ v = (51 : Int32)) (h12 : ¬ v = (52 : Int32)) (h13 : ¬ v = (53 : Int32)) (h14 : ¬ v = (54 : Int32)) (h15 : ¬ v = (55 : Int32)) (h16 : ¬ v = (56 : Int32)) (h17 : ¬ v = (57 : Int32)) (h18 : ¬ v = (58 : Int32)) (h19 : ¬ v = (59 : Int32)) (h20 : ¬ v = (60 : Int32)) (h21 : ¬ v = (61 : Int32)) (h22 : ¬ v = (62 : Int32)) (h23 : ¬ v = (63 : Int32)) (h24 : ¬ v = (64 : Int32)) (h25 : ¬ v = (65 : Int32)) (h26 : ¬ v = (66 : Int32)) (h27 : ¬ v = (67 : Int32)) (h28 : ¬ v = (68 : Int32)) (h29 : ¬ v = (69 : Int32)) (h30 : ¬ v = (70 : Int32)) (h31 : ¬ v = (71 : Int32)) (h32 : ¬ v = (72 : Int32)) (h33 : ¬ v = (73 : Int32)) (h34 : ¬ v = (74 : Int32)) (h35 : ¬ v = (75 : Int32)) (h36 : ¬ v = (76 : Int32)) (h37 : ¬ v = (77 : Int32)) (h38 : ¬ v = (78 : Int32)) (h39 : ¬ v = (79 : Int32)) (h40 : ¬ v = (80 : Int32)) (h41 : ¬ v = (81 : Int32)) (h42 : ¬ v = (82 : Int32)) (h43 : ¬ v = (83 : Int32)) (h44 : ¬ v = (84 : Int32)) (h45 : ¬ v = (85 : Int32)) (h46 : ¬ v = (86 : Int32)) (h47 : ¬ v = (87 : Int32)) (h48 : ¬ v = (88 : Int32)) (h49 : ¬ v = (89 : Int32)) (h50 : ¬ v = (90 : Int32)) (h51 : ¬ v = (91 : Int32)) (h52 : ¬ v = (92 : Int32)) (h53 : ¬ v = (93 : Int32)) : v.toInt < 40 ∨ 93 < v.toInt := by
  have e0 := g_ne h0 (n := 40) (by decide)
  have e1 := g_ne h1 (n := 41) (by decide)
  have e2 := g_ne h2 (n := 42) (by decide)
  have e3 := g_ne h3 (n := 43) (by decide)
  have e4 := g_ne h4 (n := 44) (by decide)
  have e5 := g_ne h5 (n := 45) (by decide)
  have e6 := g_ne h6 (n := 46) (by decide)
  have e7 := g_ne h7 (n := 47) (by decide)
  have e8 := g_ne h8 (n := 48) (by decide)
  have e9 := g_ne h9 (n := 49) (by decide)
  have e10 := g_ne h10 (n := 50) (by decide)
  have e11 := g_ne h11 (n := 51) (by decide)
  have e12 := g_ne h12 (n := 52) (by decide)
  have e13 := g_ne h13 (n := 53) (by decide)
  have e14 := g_ne h14 (n := 54) (by decide)
  have e15 := g_ne h15 (n := 55) (by decide)
  have e16 := g_ne h16 (n := 56) (by decide)
  have e17 := g_ne h17 (n := 57) (by decide)
  have e18 := g_ne h18 (n := 58) (by decide)
  have e19 := g_ne h19 (n := 59) (by decide)
  have e20 := g_ne h20 (n := 60) (by decide)
  have e21 := g_ne h21 (n := 61) (by decide)
  have e22 := g_ne h22 (n := 62) (by decide)
  have e23 := g_ne h23 (n := 63) (by decide)
  have e24 := g_ne h24 (n := 64) (by decide)
  have e25 := g_ne h25 (n := 65) (by decide)
  have e26 := g_ne h26 (n := 66) (by decide)
  have e27 := g_ne h27 (n := 67) (by decide)
  have e28 := g_ne h28 (n := 68) (by decide)
  have e29 := g_ne h29 (n := 69) (by decide)
  have e30 := g_ne h30 (n := 70) (by decide)
  have e31 := g_ne h31 (n := 71) (by decide)
  have e32 := g_ne h32 (n := 72) (by decide)
  have e33 := g_ne h33 (n := 73) (by decide)
  have e34 := g_ne h34 (n := 74) (by decide)
  have e35 := g_ne h35 (n := 75) (by decide)
  have e36 := g_ne h36 (n := 76) (by decide)
  have e37 := g_ne h37 (n := 77) (by decide)
  have e38 := g_ne h38 (n := 78) (by decide)
  have e39 := g_ne h39 (n := 79) (by decide)
  have e40 := g_ne h40 (n := 80) (by decide)
  have e41 := g_ne h41 (n := 81) (by decide)
  have e42 := g_ne h42 (n := 82) (by decide)
  have e43 := g_ne h43 (n := 83) (by decide)
  have e44 := g_ne h44 (n := 84) (by decide)
  have e45 := g_ne h45 (n := 85) (by decide)
  have e46 := g_ne h46 (n := 86) (by decide)
  have e47 := g_ne h47 (n := 87) (by decide)
  have e48 := g_ne h48 (n := 88) (by decide)
  have e49 := g_ne h49 (n := 89) (by decide)
  have e50 := g_ne h50 (n := 90) (by decide)
  have e51 := g_ne h51 (n := 91) (by decide)
  have e52 := g_ne h52 (n := 92) (by decide)
  have e53 := g_ne h53 (n := 93) (by decide)
  omega
theorem g_sw_X15_joined_1 {v : Int32} (h0 : ¬ v = (22 : Int32)) (h1 : ¬ v = (23 : Int32)) (h2 : ¬ v = (24 : Int32)) (h3 : ¬ v = (25 : Int32)) (h4 : ¬ v = (26 : Int32)) (h5 : ¬ v = (27 : Int32)) (h6 : ¬ v = (28 : Int32)) (h7 : ¬ v = (29 : Int32)) (h8 : ¬ v = (30 : Int32)) (h9 : ¬ v = (31 : Int32)) (h10 : ¬ v = (32 : Int32)) (h11 : ¬ v = (33 : Int32)) (h12 : ¬ v = (34 : Int32)) (h13 : ¬ v = (35 : Int32)) (h14 : ¬ v = (36 : Int32)) (h15 : ¬ v = (37 : Int32)) (h16 : ¬ v = (38 : Int32)) (h17 : ¬ v = (39 : Int32)) (h18 : ¬ v = (40 : Int32)) (h19 : ¬ v = (41 : Int32)) (h20 : ¬ v = (42 : Int32)) (h21 : ¬ v = (43 : Int32)) (h22 : ¬ v = (44 : Int32)) (h23 : ¬ v = (45 : Int32)) (h24 : ¬ v = (46 : Int32)) (h25 : ¬ v = (47 : Int32)) : v.toInt < 22 ∨ 47 < v.toInt := by
  have e0 := g_ne h0 (n := 22) (by decide)
  have e1 := g_ne h1 (n := 23) (by decide)
  have e2 := g_ne h2 (n := 24) (by decide)
  have e3 := g_ne h3 (n := 25) (by decide)
  have e4 := g_ne h4 (n := 26) (by decide)
  have e5 := g_ne h5 (n := 27) (by decide)
  have e6 := g_ne h6 (n := 28) (by decide)
  have e7 := g_ne h7 (n := 29) (by decide)
  have e8 := g_ne h8 (n := 30) (by decide)
  have e9 := g_ne h9 (n := 31) (by decide)
  have e10 := g_ne h10 (n := 32) (by decide)
  have e11 := g_ne h11 (n := 33) (by decide)
  have e12 := g_ne h12 (n := 34) (by decide)
  have e13 := g_ne h13 (n := 35) (by decide)
  have e14 := g_ne h14 (n := 36) (by decide)
  have e15 := g_ne h15 (n := 37) (by decide)
  have e16 := g_ne h16 (n := 38) (by decide)
  have e17 := g_ne h17 (n := 39) (by decide)
  have e18 := g_ne h18 (n := 40) (by decide)
  have e19 := g_ne h19 (n := 41) (by decide)
  have e20 := g_ne h20 (n := 42) (by decide)
  have e21 := g_ne h21 (n := 43) (by decide)
  have e22 := g_ne h22 (n := 44) (by decide)
  have e23 := g_ne h23 (n := 45) (by decide)
  have e24 := g_ne h24 (n := 46) (by decide)
  have e25 := g_ne h25 (n := 47) (by decide)
  omega
theorem g_lk_X15_reckon_1 {v : Int32} (h0 : ¬ v = (14 : Int32)) (h1 : ¬ v = (15 : Int32)) (h2 : ¬ v = (16 : Int32)) (h3 : ¬ v = (17 : Int32)) (h4 : ¬ v = (19 : Int32)) (h5 : ¬ v = (20 : Int32)) (h6 : ¬ v = (21 : Int32)) (h7 : ¬ v = (31 : Int32)) (h8 : ¬ v = (60 : Int32)) : Op.lookupswitch.offset [(14, 85), (15, 90), (16, 96), (17, 121), (19, 128), (20, 144), (21, 159), (31, 83), (60, 151)] 168 v.toInt = 168 := by
  have e0 := g_ne h0 (n := 14) (by decide)
  have e1 := g_ne h1 (n := 15) (by decide)
  have e2 := g_ne h2 (n := 16) (by decide)
  have e3 := g_ne h3 (n := 17) (by decide)
  have e4 := g_ne h4 (n := 19) (by decide)
  have e5 := g_ne h5 (n := 20) (by decide)
  have e6 := g_ne h6 (n := 21) (by decide)
  have e7 := g_ne h7 (n := 31) (by decide)
  have e8 := g_ne h8 (n := 60) (by decide)
  simp only [Op.lookupswitch.offset]
  repeat rw [if_neg (fun e => by first | omega | (simp at e; omega))]
theorem k_0 : kd 0 = 1 := by decide
theorem k_1 : kd 1 = 2 := by decide
theorem k_2 : kd 2 = 20 := by decide
theorem k_3 : kd 3 = 3 := by decide
theorem k_4 : kd 4 = 21 := by decide
theorem k_5 : kd 5 = 22 := by decide
theorem k_6 : kd 6 = 22 := by decide
theorem k_7 : kd 7 = 22 := by decide
theorem k_8 : kd 8 = 4 := by decide
theorem k_9 : kd 9 = 23 := by decide
theorem k_10 : kd 10 = 5 := by decide
theorem k_12 : kd 12 = 5 := by decide
theorem k_14 : kd 14 = 5 := by decide
theorem k_16 : kd 16 = 5 := by decide
theorem k_18 : kd 18 = 6 := by decide
theorem k_19 : kd 19 = 25 := by decide
theorem k_120 : kd 120 = 12 := by decide
theorem k_121 : kd 121 = 30 := by decide
theorem k_122 : kd 122 = 31 := by decide
theorem k_123 : kd 123 = 31 := by decide
theorem k_124 : kd 124 = 31 := by decide
theorem k_125 : kd 125 = 31 := by decide
theorem k_126 : kd 126 = 32 := by decide
theorem k_127 : kd 127 = 13 := by decide
theorem k_130 : kd 130 = 35 := by decide
theorem k_131 : kd 131 = 35 := by decide
theorem k_132 : kd 132 = 35 := by decide
theorem k_133 : kd 133 = 35 := by decide
theorem k_134 : kd 134 = 35 := by decide
theorem k_135 : kd 135 = 35 := by decide
theorem k_136 : kd 136 = 36 := by decide
theorem k_137 : kd 137 = 36 := by decide
theorem k_138 : kd 138 = 36 := by decide
theorem k_139 : kd 139 = 13 := by decide
theorem k_140 : kd 140 = 33 := by decide
theorem k_141 : kd 141 = 34 := by decide
theorem k_142 : kd 142 = 35 := by decide
theorem k_143 : kd 143 = 35 := by decide
theorem k_144 : kd 144 = 35 := by decide
theorem k_145 : kd 145 = 35 := by decide
theorem k_146 : kd 146 = 35 := by decide
theorem k_147 : kd 147 = 35 := by decide
theorem k_148 : kd 148 = 36 := by decide
theorem k_149 : kd 149 = 36 := by decide
theorem k_150 : kd 150 = 36 := by decide
theorem k_151 : kd 151 = 36 := by decide
theorem k_152 : kd 152 = 14 := by decide
theorem k_153 : kd 153 = 33 := by decide
theorem k_154 : kd 154 = 34 := by decide
theorem k_155 : kd 155 = 32 := by decide
theorem k_156 : kd 156 = 14 := by decide
theorem k_160 : kd 160 = 37 := by decide
theorem k_162 : kd 162 = 11 := by decide
theorem k_163 : kd 163 = 29 := by decide
