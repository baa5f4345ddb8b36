/-! the pure functions, laid by program out of the bytecode (wip/whole/gen) -/
def g_min (x y : Int32) : Int32 := if y < x then y else x
theorem g_minR {p : Program} {l : Launch} {e : Env} {s : State} {m : MethodId} {args : Array Value} {below : List Frame} {meth : Method} {c : Code} {H : Heap} {locs : List Loc} {cells slots : Nat} {Q : State → Prop} {G : GL} {ids : List Nat} {cc : ByteArray} {nL pc idx k u v : Nat} {own : String} {rt : Option FieldType} {ls : Array Slot} {rest : List Value} {x y : Int32} (C0 : g_X G ids p s m args meth c cc nL own rt) (hsz : ls.size = nL) (hcat : (rest.map fun v => v.category).sum ≤ 8) (hk : 1 ≤ k) (hl : .methodLink own idx yJ9_min_7cf53 ∈ gT) (hc : cells ≤ u) (hs : slots ≤ v) (hdg : decode cc pc = .ok (.invokestatic idx, 3)) (kk : W p l e (g_rm k u v) s m args below meth c H locs cells slots Q (F0 m (pc + 3) ls (.int (g_min x y) :: rest))) : W p l e (g_rm k u v) s m args below meth c H locs cells slots Q (F0 m pc ls (.int y :: .int x :: rest)) := by
  refine va_mmin C0.hx C0.hb (C0.hml.trans hsz.symm) C0.hown (C0.hts _ hl) (C0.hts _ tz_J9_min_7cf53) (C0.hts _ tn_J9) (C0.hts _ tc_J9_min_7cf53) hk ?_ hc hs hdg kk
  show _ ≤ 64 * k
  omega
def g_max (x y : Int32) : Int32 := if x < y then y else x
theorem g_maxR {p : Program} {l : Launch} {e : Env} {s : State} {m : MethodId} {args : Array Value} {below : List Frame} {meth : Method} {c : Code} {H : Heap} {locs : List Loc} {cells slots : Nat} {Q : State → Prop} {G : GL} {ids : List Nat} {cc : ByteArray} {nL pc idx k u v : Nat} {own : String} {rt : Option FieldType} {ls : Array Slot} {rest : List Value} {x y : Int32} (C0 : g_X G ids p s m args meth c cc nL own rt) (hsz : ls.size = nL) (hcat : (rest.map fun v => v.category).sum ≤ 8) (hk : 1 ≤ k) (hl : .methodLink own idx yJ9_max_7cf53 ∈ gT) (hc : cells ≤ u) (hs : slots ≤ v) (hdg : decode cc pc = .ok (.invokestatic idx, 3)) (kk : W p l e (g_rm k u v) s m args below meth c H locs cells slots Q (F0 m (pc + 3) ls (.int (g_max x y) :: rest))) : W p l e (g_rm k u v) s m args below meth c H locs cells slots Q (F0 m pc ls (.int y :: .int x :: rest)) := by
  refine va_mmax C0.hx C0.hb (C0.hml.trans hsz.symm) C0.hown (C0.hts _ hl) (C0.hts _ tz_J9_max_7cf53) (C0.hts _ tn_J9) (C0.hts _ tc_J9_max_7cf53) hk ?_ hc hs hdg kk
  show _ ≤ 64 * k
  omega
def g_abs (x : Int32) : Int32 := if 0 ≤ x then x else 0 - x
theorem g_absR {p : Program} {l : Launch} {e : Env} {s : State} {m : MethodId} {args : Array Value} {below : List Frame} {meth : Method} {c : Code} {H : Heap} {locs : List Loc} {cells slots : Nat} {Q : State → Prop} {G : GL} {ids : List Nat} {cc : ByteArray} {nL pc idx k u v : Nat} {own : String} {rt : Option FieldType} {ls : Array Slot} {rest : List Value} {x : Int32} (C0 : g_X G ids p s m args meth c cc nL own rt) (hsz : ls.size = nL) (hcat : (rest.map fun v => v.category).sum ≤ 8) (hk : 1 ≤ k) (hl : .methodLink own idx yJ9_abs_0f7a4 ∈ gT) (hc : cells ≤ u) (hs : slots ≤ v) (hdg : decode cc pc = .ok (.invokestatic idx, 3)) (kk : W p l e (g_rm k u v) s m args below meth c H locs cells slots Q (F0 m (pc + 3) ls (.int (g_abs x) :: rest))) : W p l e (g_rm k u v) s m args below meth c H locs cells slots Q (F0 m pc ls (.int x :: rest)) := by
  refine va_mabs C0.hx C0.hb (C0.hml.trans hsz.symm) C0.hown (C0.hts _ hl) (C0.hts _ tz_J9_abs_0f7a4) (C0.hts _ tn_J9) (C0.hts _ tc_J9_abs_0f7a4) hk ?_ hc hs hdg kk
  show _ ≤ 64 * k
  omega
def f_J0_coder_7d493 (t : Nat) : Option (Int32) :=
  if (1 : Int32) = 0 then (some ((1 : Int32))) else (if t < 93 then (some ((0 : Int32))) else none)
def f_J0_length_8abf5 (t : Nat) : Option (Int32) :=
  if t < 93 then (if t < 93 then (if t < 93 then ((f_J0_coder_7d493 t).bind fun q3 => some ((nI (g_len.getD t 0)) >>> (q3 &&& 31))) else none) else none) else none
def f_J0_isLatin1_aae02 (t : Nat) : Option (Int32) :=
  if (1 : Int32) = 0 then (some ((0 : Int32))) else (if t < 93 then (if (0 : Int32) = 0 then (some ((1 : Int32))) else (some ((0 : Int32)))) else none)
def f_J1_charAt_3b067 (p1 : Nat) (p2 : Int32) : Option (Int32) :=
  if p1 < 93 then (if ¬ p2 < 0 then (if p2 < (nI (g_len.getD p1 0)) then (if p1 < 93 then (if g_ok p2 (g_len.getD p1 0) = true then (some (((((g_byt.getD p1 []).getD p2.toNatClampNeg 0) &&& (255 : Int32)).toUInt32 % 65536).toInt32)) else none) else none) else none) else none) else none
def f_J0_charAt_5068e (t : Nat) (p1 : Int32) : Option (Int32) :=
  if t < 93 then ((f_J0_isLatin1_aae02 t).bind fun q1 => if q1 = 0 then (if t < 93 then (none) else none) else (if t < 93 then ((f_J1_charAt_3b067 t p1).bind fun q5 => if narrow .char (.int (q5)) = .int (q5) then (some (q5)) else none) else none)) else none
def f_X9_word (t : Nat) (p1 : Int32) (x : CS) : Option (Nat) :=
  if p1 < 0 then (some (t + 2)) else (if (8 : Int32) ≤ p1 then (some (t + 2)) else (if g_ok p1 8 = true then (some ((t + 1) + 4 + 3 * p1.toNatClampNeg)) else none))
def f_X9_closestKept_4 (x : CS) : Nat → Nat → Int32 → Int32 → Int32 → Option (Int32)
  | 0, _, _, _, _ => none
  | n + 1, l0, l1, l2, l3 => if (x.1 l0 2) ≤ l3 then (some (l2)) else (if l3 = l1 then (f_X9_closestKept_4 x n l0 l1 l2 (l3 + (1 : Int32))) else ((f_X9_word l0 l3 x).bind fun q3 => if kd (q3) = 10 then (if (x.1 q3 1) = 0 then (if l2 = (-1 : Int32) then (f_X9_closestKept_4 x n l0 l1 l3 (l3 + (1 : Int32))) else ((f_X9_word l0 l3 x).bind fun q7 => if kd (q7) = 10 then ((f_X9_word l0 l2 x).bind fun q9 => if kd (q9) = 10 then (if (x.1 q9 2) ≤ (x.1 q7 2) then (f_X9_closestKept_4 x n l0 l1 l2 (l3 + (1 : Int32))) else (f_X9_closestKept_4 x n l0 l1 l3 (l3 + (1 : Int32)))) else none) else none)) else (f_X9_closestKept_4 x n l0 l1 l2 (l3 + (1 : Int32)))) else none))
def f_X9_closestKept (t : Nat) (p1 : Int32) (x : CS) : Option (Int32) :=
  f_X9_closestKept_4 x g_fuel t p1 (-1 : Int32) (0 : Int32)
def f_X1_meantOf (p1 : Nat) (x : CS) : Option (Int32) :=
  if (x.1 14 1) = 0 then (some ((-1 : Int32))) else ((f_X9_closestKept p1 (-1 : Int32) x).bind fun q2 => some (q2))
def f_X3_pitch (t : Nat) (p1 : Int32) (x : CS) : Option (Int32) :=
  if p1 < 0 then (some ((0 : Int32))) else (if (24 : Int32) ≤ p1 then (some ((0 : Int32))) else (if g_ok p1 24 = true then (some (x.1 (t + 1) p1.toNatClampNeg)) else none))
def f_X10_weight_46  : Option (Int32) :=
  some (((10 : Int32) * (64 : Int32)) + (1 : Int32))
def f_X10_weight_29 (s0 : Int32) : Option (Int32) :=
  some ((s0 * (64 : Int32)) + (1 : Int32))
def f_X10_weight_14 (l0 : Int32) (l1 : Int32) (l2 : Int32) (s0 : Int32) : Option (Int32) :=
  if l2 = 0 then (if l0 = l1 then (some ((s0 * (64 : Int32)) + (1 : Int32))) else (if l0 = 0 then (f_X10_weight_46) else (if l1 = 0 then (f_X10_weight_46) else (some ((s0 * (64 : Int32)) + (1 : Int32)))))) else (if l0 = l1 then (f_X10_weight_29 (0 : Int32)) else (f_X10_weight_29 (1 : Int32)))
def f_X10_weight (p1 : Int32) (p2 : Int32) (p3 : Int32) : Option (Int32) :=
  if p2 ≤ p1 then (f_X10_weight_14 p1 p2 p3 (p1 - p2)) else (f_X10_weight_14 p1 p2 p3 (p2 - p1))
def f_X10_lightest_129 (k28 : Nat → Nat → Int32 → Int32 → Int32 → CS → Option (Int32 × CS)) (k53 : Nat → Nat → Int32 → Int32 → Int32 → Int32 → Int32 → CS → Option (Int32 × CS)) (l1 : Nat) (l2 : Nat) (l4 : Int32) (l5 : Int32) (l6 : Int32) (l8 : Int32) (l9 : Int32) (l10 : Int32) (s0 : Int32) (x : CS) : Option (Int32 × CS) :=
  if s0 = 0 then (if g_ok (l8 + (1 : Int32)) 25 = true then (k53 l1 l2 l4 l5 l6 l9 (l8 + (1 : Int32)) (g_wi x 9 (l8 + (1 : Int32)).toNatClampNeg (16777216 : Int32))) else none) else ((f_X3_pitch l1 l6 x).bind fun q14 => (f_X3_pitch l2 l8 x).bind fun q15 => (f_X10_weight q14 q15 l4).bind fun q16 => if g_ok (l8 + (1 : Int32)) 25 = true then (k53 l1 l2 l4 l5 l6 l9 (l8 + (1 : Int32)) (g_wi x 9 (l8 + (1 : Int32)).toNatClampNeg (l10 + q16))) else none)
def f_X10_lightest_128 (k28 : Nat → Nat → Int32 → Int32 → Int32 → CS → Option (Int32 × CS)) (k53 : Nat → Nat → Int32 → Int32 → Int32 → Int32 → Int32 → CS → Option (Int32 × CS)) (l1 : Nat) (l2 : Nat) (l4 : Int32) (l5 : Int32) (l6 : Int32) (l8 : Int32) (l9 : Int32) (l10 : Int32) (x : CS) : Option (Int32 × CS) :=
  f_X10_lightest_129 k28 k53 l1 l2 l4 l5 l6 l8 l9 l10 (0 : Int32) x
def f_X10_lightest_53 (k28 : Nat → Nat → Int32 → Int32 → Int32 → CS → Option (Int32 × CS)) : Nat → Nat → Nat → Int32 → Int32 → Int32 → Int32 → Int32 → CS → Option (Int32 × CS)
  | 0, _, _, _, _, _, _, _, _ => none
  | n + 1, l1, l2, l4, l5, l6, l7, l8, x => if (x.1 l2 1) ≤ l8 then (k28 l1 l2 l4 l5 (l6 + (1 : Int32)) x) else (if ((25 : Int32) - (1 : Int32)) ≤ l8 then (k28 l1 l2 l4 l5 (l6 + (1 : Int32)) x) else (if g_ok (l8 + (1 : Int32)) 25 = true then (if g_ok l8 25 = true then (if (16777216 : Int32) ≤ (g_min l7 (g_min (x.1 9 (l8 + (1 : Int32)).toNatClampNeg) (x.1 9 l8.toNatClampNeg))) then (f_X10_lightest_128 k28 (f_X10_lightest_53 k28 n) l1 l2 l4 l5 l6 l8 (x.1 9 (l8 + (1 : Int32)).toNatClampNeg) (g_min l7 (g_min (x.1 9 (l8 + (1 : Int32)).toNatClampNeg) (x.1 9 l8.toNatClampNeg))) x) else (if l5 < (g_abs (l6 - l8)) then (f_X10_lightest_128 k28 (f_X10_lightest_53 k28 n) l1 l2 l4 l5 l6 l8 (x.1 9 (l8 + (1 : Int32)).toNatClampNeg) (g_min l7 (g_min (x.1 9 (l8 + (1 : Int32)).toNatClampNeg) (x.1 9 l8.toNatClampNeg))) x) else (f_X10_lightest_129 k28 (f_X10_lightest_53 k28 n) l1 l2 l4 l5 l6 l8 (x.1 9 (l8 + (1 : Int32)).toNatClampNeg) (g_min l7 (g_min (x.1 9 (l8 + (1 : Int32)).toNatClampNeg) (x.1 9 l8.toNatClampNeg))) (1 : Int32) x))) else none) else none))
def f_X10_lightest_28  : Nat → Nat → Nat → Int32 → Int32 → Int32 → CS → Option (Int32 × CS)
  | 0, _, _, _, _, _, _ => none
  | n + 1, l1, l2, l4, l5, l6, x => if (x.1 l1 1) ≤ l6 then (if (x.1 l2 1) < 0 then (some (((16777216 : Int32), x))) else (if (25 : Int32) ≤ (x.1 l2 1) then (some (((16777216 : Int32), x))) else (if g_ok (x.1 l2 1) 25 = true then (some ((x.1 9 (x.1 l2 1).toNatClampNeg, x))) else none))) else (if l6 = 0 then (f_X10_lightest_53 (f_X10_lightest_28 n) g_fuel l1 l2 l4 l5 l6 (0 : Int32) (0 : Int32) x) else (f_X10_lightest_53 (f_X10_lightest_28 n) g_fuel l1 l2 l4 l5 l6 (16777216 : Int32) (0 : Int32) x))
def f_X10_lightest (p1 : Nat) (p2 : Nat) (p3 : Int32) (p4 : Int32) (x : CS) : Option (Int32 × CS) :=
  f_X10_lightest_28 g_fuel p1 p2 p4 (p3 + (g_abs ((x.1 p1 1) - (x.1 p2 1)))) (0 : Int32) (g_fl x 9 25 (16777216 : Int32))
def f_X10_distance (p1 : Nat) (p2 : Nat) (p3 : Int32) (x : CS) : Option (Int32 × CS) :=
  (f_X10_lightest p1 p2 p3 (0 : Int32) x).bind fun q1 => some ((q1.1 / (64 : Int32), q1.2))
def f_X1_measure (p1 : Nat) (p2 : Nat) (x : CS) : Option (CS) :=
  if (x.1 14 1) = 0 then (some (g_wi x p2 2 (999 : Int32))) else ((f_X10_distance (p2 + 1) 14 (x.1 p1 6) x).bind fun q2 => some (g_wi q2.2 p2 2 q2.1))
def f_X1_measureAll_2  : Nat → Nat → Nat → Int32 → CS → Option (CS)
  | 0, _, _, _, _ => none
  | n + 1, l1, l2, l3, x => if (x.1 l2 2) ≤ l3 then (some (x)) else ((f_X9_word l2 l3 x).bind fun q2 => if kd (q2) = 10 then ((f_X1_measure l1 q2 x).bind fun q4 => f_X1_measureAll_2 n l1 l2 (l3 + (1 : Int32)) q4) else none)
def f_X1_measureAll (p1 : Nat) (p2 : Nat) (x : CS) : Option (CS) :=
  f_X1_measureAll_2 g_fuel p1 p2 (0 : Int32) x
def f_X5_rule (t : Nat) (p1 : Int32) (x : CS) : Option (Nat) :=
  if p1 < 0 then (some (t + 2)) else (if (16 : Int32) ≤ p1 then (some (t + 2)) else (if g_ok p1 16 = true then (some ((t + 1) + 4 + 1 * p1.toNatClampNeg)) else none))
def f_X5_sign (t : Nat) (p1 : Int32) (x : CS) : Option (Nat) :=
  if p1 < 0 then (some (44)) else (if (400 : Int32) ≤ p1 then (some (44)) else (if g_ok p1 400 = true then (some (x.2 (t + 3) p1.toNatClampNeg)) else none))
def f_X1_pop (x : CS) : Option (Int32 × CS) :=
  if (x.1 18 3) < (1 : Int32) then (some (((0 : Int32), x))) else (if (x.1 18 3) ≤ (400 : Int32) then (if g_ok ((g_wi x 18 3 ((x.1 18 3) - (1 : Int32))).1 18 3) 400 = true then (some (((g_wi x 18 3 ((x.1 18 3) - (1 : Int32))).1 19 ((g_wi x 18 3 ((x.1 18 3) - (1 : Int32))).1 18 3).toNatClampNeg, g_wi x 18 3 ((x.1 18 3) - (1 : Int32))))) else none) else (some (((0 : Int32), x))))
def f_X1_push (p1 : Int32) (x : CS) : Option (CS) :=
  if (x.1 18 3) < 0 then (some (x)) else (if (400 : Int32) ≤ (x.1 18 3) then (some (x)) else (if g_ok (x.1 18 3) 400 = true then (some (g_wi (g_wi x 19 (x.1 18 3).toNatClampNeg p1) 18 3 (((g_wi x 19 (x.1 18 3).toNatClampNeg p1).1 18 3) + (1 : Int32)))) else none))
def f_X1_isJoin (p1 : Nat) (x : CS) : Option (Int32) :=
  if p1 < 46 then (if g_ok (nI p1) 46 = true then (if (g_sm.getD (nI p1).toNatClampNeg 0) = (7 : Int32) then (some ((1 : Int32))) else (if (g_sm.getD (nI p1).toNatClampNeg 0) = (8 : Int32) then (some ((1 : Int32))) else (if (g_sm.getD (nI p1).toNatClampNeg 0) = (9 : Int32) then (some ((1 : Int32))) else (if (g_sm.getD (nI p1).toNatClampNeg 0) = (10 : Int32) then (some ((1 : Int32))) else (if (g_sm.getD (nI p1).toNatClampNeg 0) = (11 : Int32) then (some ((1 : Int32))) else (if (g_sm.getD (nI p1).toNatClampNeg 0) = (12 : Int32) then (some ((1 : Int32))) else (if (g_sm.getD (nI p1).toNatClampNeg 0) = (13 : Int32) then (some ((1 : Int32))) else (if (g_sm.getD (nI p1).toNatClampNeg 0) = (14 : Int32) then (some ((1 : Int32))) else (if (g_sm.getD (nI p1).toNatClampNeg 0) = (15 : Int32) then (some ((1 : Int32))) else (if (g_sm.getD (nI p1).toNatClampNeg 0) = (16 : Int32) then (some ((1 : Int32))) else (if (g_sm.getD (nI p1).toNatClampNeg 0) = (17 : Int32) then (some ((1 : Int32))) else (if (g_sm.getD (nI p1).toNatClampNeg 0) = (18 : Int32) then (some ((1 : Int32))) else (if (g_sm.getD (nI p1).toNatClampNeg 0) = (19 : Int32) then (some ((1 : Int32))) else (some ((0 : Int32)))))))))))))))) else none) else none
def f_X12_quotient (p1 : Int32) (p2 : Int32) : Option (Int32) :=
  if p2 = 0 then (some ((0 : Int32))) else (if ¬ p2 = 0 then (some (p1 / p2)) else none)
def f_X1_compares (p1 : Nat) (p2 : Int32) (p3 : Int32) (x : CS) : Option (Int32) :=
  if p1 < 46 then (if g_ok (nI p1) 46 = true then (if (g_sm.getD (nI p1).toNatClampNeg 0) = (15 : Int32) then (if p3 ≤ p2 then (some ((0 : Int32))) else (some ((1 : Int32)))) else (if (g_sm.getD (nI p1).toNatClampNeg 0) = (16 : Int32) then (if p2 ≤ p3 then (some ((0 : Int32))) else (some ((1 : Int32)))) else (if (g_sm.getD (nI p1).toNatClampNeg 0) = (17 : Int32) then (if p2 = p3 then (some ((1 : Int32))) else (some ((0 : Int32)))) else (if (g_sm.getD (nI p1).toNatClampNeg 0) = (18 : Int32) then (if p3 < p2 then (some ((0 : Int32))) else (some ((1 : Int32)))) else (if (g_sm.getD (nI p1).toNatClampNeg 0) = (19 : Int32) then (if p2 < p3 then (some ((0 : Int32))) else (some ((1 : Int32)))) else (if p2 = p3 then (some ((1 : Int32))) else (some ((0 : Int32))))))))) else none) else none
def f_X1_join (p1 : Nat) (p2 : Int32) (p3 : Int32) (x : CS) : Option (Int32) :=
  if p1 < 46 then (if g_ok (nI p1) 46 = true then (if (g_sm.getD (nI p1).toNatClampNeg 0) = (7 : Int32) then (some (p2 &&& p3)) else (if (g_sm.getD (nI p1).toNatClampNeg 0) = (8 : Int32) then (some (p2 ||| p3)) else (if (g_sm.getD (nI p1).toNatClampNeg 0) = (9 : Int32) then (some (g_min p2 p3)) else (if (g_sm.getD (nI p1).toNatClampNeg 0) = (10 : Int32) then (some (g_max p2 p3)) else (if (g_sm.getD (nI p1).toNatClampNeg 0) = (11 : Int32) then (some (p2 + p3)) else (if (g_sm.getD (nI p1).toNatClampNeg 0) = (12 : Int32) then (some (p2 - p3)) else (if (g_sm.getD (nI p1).toNatClampNeg 0) = (13 : Int32) then (some (p2 * p3)) else (if (g_sm.getD (nI p1).toNatClampNeg 0) = (14 : Int32) then ((f_X12_quotient p2 p3).bind fun q13 => some (q13)) else ((f_X1_compares p1 p2 p3 x).bind fun q11 => if q11 = 0 then (some ((0 : Int32))) else (some ((1 : Int32)))))))))))) else none) else none
def f_X5_value (t : Nat) (p1 : Int32) (x : CS) : Option (Int32) :=
  if p1 < 0 then (some ((0 : Int32))) else (if (400 : Int32) ≤ p1 then (some ((0 : Int32))) else (if g_ok p1 400 = true then (some (x.1 (t + 4) p1.toNatClampNeg)) else none))
def f_X9_countKept_4 (x : CS) : Nat → Nat → Int32 → Int32 → Option (Int32)
  | 0, _, _, _ => none
  | n + 1, l0, l1, l2 => if (x.1 l0 2) ≤ l2 then (some (l1)) else ((f_X9_word l0 l2 x).bind fun q2 => if kd (q2) = 10 then (if (x.1 q2 1) = 0 then (f_X9_countKept_4 x n l0 (l1 + (1 : Int32)) (l2 + (1 : Int32))) else (f_X9_countKept_4 x n l0 l1 (l2 + (1 : Int32)))) else none)
def f_X9_countKept (t : Nat) (x : CS) : Option (Int32) :=
  f_X9_countKept_4 x g_fuel t (0 : Int32) (0 : Int32)
def f_X1_found (p1 : Nat) (p2 : Nat) (p3 : Int32) (x : CS) : Option (Int32) :=
  if p2 < 46 then (if g_ok (nI p2) 46 = true then (if (g_sm.getD (nI p2).toNatClampNeg 0) = (1 : Int32) then (some (x.1 p1 3)) else (if (g_sm.getD (nI p2).toNatClampNeg 0) = (2 : Int32) then ((f_X9_countKept p1 x).bind fun q18 => some (q18)) else (if (g_sm.getD (nI p2).toNatClampNeg 0) = (3 : Int32) then ((f_X9_word p1 p3 x).bind fun q16 => if kd (q16) = 10 then (some (x.1 q16 2)) else none) else (if (g_sm.getD (nI p2).toNatClampNeg 0) = (4 : Int32) then ((f_X9_word p1 p3 x).bind fun q14 => if kd (q14) = 10 then (some (x.1 (q14 + 1) 1)) else none) else (if (g_sm.getD (nI p2).toNatClampNeg 0) = (5 : Int32) then ((f_X1_meantOf p1 x).bind fun q12 => if q12 = p3 then (some ((1 : Int32))) else (some ((0 : Int32)))) else (if (g_sm.getD (nI p2).toNatClampNeg 0) = (6 : Int32) then ((f_X9_word p1 p3 x).bind fun q9 => if kd (q9) = 10 then (if (x.1 q9 1) = 0 then (some ((0 : Int32))) else (some ((1 : Int32)))) else none) else (some (p3)))))))) else none) else none
def f_X1_reckon_64 (k8 : Nat → Nat → Int32 → Int32 → CS → Option (Int32 × CS)) (l1 : Nat) (l2 : Nat) (l4 : Int32) (l5 : Int32) (s0 : Int32) (x : CS) : Option (Int32 × CS) :=
  (f_X1_push s0 x).bind fun q19 => k8 l1 l2 l4 (l5 + (1 : Int32)) q19
def f_X1_reckon_8  : Nat → Nat → Nat → Int32 → Int32 → CS → Option (Int32 × CS)
  | 0, _, _, _, _, _ => none
  | n + 1, l1, l2, l4, l5, x => if l4 ≤ l5 then ((f_X1_pop x).bind fun q2 => some ((q2.1, q2.2))) else ((f_X5_sign l1 l5 x).bind fun q3 => if q3 = 43 then ((f_X1_pop x).bind fun q17 => (f_X1_push (-q17.1) q17.2).bind fun q18 => f_X1_reckon_8 n l1 l2 l4 (l5 + (1 : Int32)) q18) else (if q3 = 21 then ((f_X1_pop x).bind fun q15 => if q15.1 = 0 then (f_X1_reckon_64 (f_X1_reckon_8 n) l1 l2 l4 l5 (1 : Int32) q15.2) else (f_X1_reckon_64 (f_X1_reckon_8 n) l1 l2 l4 l5 (0 : Int32) q15.2)) else ((f_X1_isJoin q3 x).bind fun q6 => if q6 = 0 then ((f_X5_value l1 l5 x).bind fun q8 => (f_X1_found l2 q3 q8 x).bind fun q9 => (f_X1_push q9 x).bind fun q10 => f_X1_reckon_8 n l1 l2 l4 (l5 + (1 : Int32)) q10) else ((f_X1_pop x).bind fun q11 => (f_X1_pop q11.2).bind fun q12 => (f_X1_join q3 q12.1 q11.1 q12.2).bind fun q13 => (f_X1_push q13 q12.2).bind fun q14 => f_X1_reckon_8 n l1 l2 l4 (l5 + (1 : Int32)) q14))))
def f_X1_reckon (p1 : Nat) (p2 : Nat) (p3 : Int32) (p4 : Int32) (x : CS) : Option (Int32 × CS) :=
  f_X1_reckon_8 g_fuel p1 p2 p4 p3 (g_wi x 18 3 (0 : Int32))
def f_X1_holds (p1 : Nat) (p2 : Nat) (p3 : Nat) (x : CS) : Option (Int32 × CS) :=
  if (x.1 p3 3) = (x.1 p3 4) then (some (((1 : Int32), x))) else ((f_X1_reckon p1 p2 (x.1 p3 3) (x.1 p3 4) x).bind fun q2 => if q2.1 = 0 then (some (((0 : Int32), q2.2))) else (some (((1 : Int32), q2.2))))
def f_X3_shift_75 (k4 : Nat → Int32 → Int32 → Int32 → CS → Option (Int32 × CS)) (l0 : Nat) (l1 : Int32) (l2 : Int32) (l3 : Int32) (l4 : Int32) (s0 : Int32) (s1 : Int32) (s2 : Nat) (x : CS) : Option (Int32 × CS) :=
  if g_ok s1 24 = true then (if l2 = 0 then (if g_ok l3 24 = true then (if ((g_wi x s2 s1.toNatClampNeg s0).1 (l0 + 1) l3.toNatClampNeg) = l4 then (k4 l0 l1 (0 : Int32) (l3 + (1 : Int32)) (g_wi x s2 s1.toNatClampNeg s0)) else (k4 l0 l1 (1 : Int32) (l3 + (1 : Int32)) (g_wi x s2 s1.toNatClampNeg s0))) else none) else (k4 l0 l1 (1 : Int32) (l3 + (1 : Int32)) (g_wi x s2 s1.toNatClampNeg s0))) else none
def f_X3_shift_4  : Nat → Nat → Int32 → Int32 → Int32 → CS → Option (Int32 × CS)
  | 0, _, _, _, _, _ => none
  | n + 1, l0, l1, l2, l3, x => if (24 : Int32) ≤ l3 then (if l2 = 0 ∨ l2 = 1 then (some ((l2, x))) else none) else (if (x.1 l0 1) ≤ l3 then (if l2 = 0 ∨ l2 = 1 then (some ((l2, x))) else none) else (if g_ok l3 24 = true then (if (x.1 (l0 + 1) l3.toNatClampNeg) = 0 then (f_X3_shift_4 n l0 l1 l2 (l3 + (1 : Int32)) x) else (if 0 ≤ (lg_cmp (((x.1 (l0 + 1) l3.toNatClampNeg).toInt64) + l1.toInt64) (1 : Int64)) then (if (lg_cmp (((x.1 (l0 + 1) l3.toNatClampNeg).toInt64) + l1.toInt64) (40 : Int64)) ≤ 0 then (f_X3_shift_75 (f_X3_shift_4 n) l0 l1 l2 l3 (x.1 (l0 + 1) l3.toNatClampNeg) ((((x.1 (l0 + 1) l3.toNatClampNeg).toInt64) + l1.toInt64).toInt32) l3 (l0 + 1) x) else (f_X3_shift_75 (f_X3_shift_4 n) l0 l1 l2 l3 (x.1 (l0 + 1) l3.toNatClampNeg) (40 : Int32) l3 (l0 + 1) x)) else (f_X3_shift_75 (f_X3_shift_4 n) l0 l1 l2 l3 (x.1 (l0 + 1) l3.toNatClampNeg) (1 : Int32) l3 (l0 + 1) x))) else none))
def f_X3_shift (t : Nat) (p1 : Int32) (x : CS) : Option (Int32 × CS) :=
  f_X3_shift_4 g_fuel t p1 (0 : Int32) (0 : Int32) x
def f_X1_changes_74 (l4 : Nat) (s0 : Int32) (x : CS) : Option (Int32 × CS) :=
  if (x.1 l4 1) = s0 then (if s0 = 0 ∨ s0 = 1 then (some (((0 : Int32), g_wi x l4 1 s0))) else none) else (if s0 = 0 ∨ s0 = 1 then (some (((1 : Int32), g_wi x l4 1 s0))) else none)
def f_X1_changes (p1 : Nat) (p2 : Nat) (p3 : Nat) (x : CS) : Option (Int32 × CS) :=
  (f_X9_word p2 (x.1 p3 1) x).bind fun q1 => if kd (q1) = 10 then (if (x.2 p3 0) = 11 then ((f_X1_reckon p1 p2 (x.1 p3 2) (x.1 p3 3) x).bind fun q5 => (f_X3_shift (q1 + 1) q5.1 q5.2).bind fun q6 => if q6.1 = 0 then (if q6.1 = 0 ∨ q6.1 = 1 then (some ((q6.1, q6.2))) else none) else ((f_X1_measure p1 q1 q6.2).bind fun q9 => if q6.1 = 0 ∨ q6.1 = 1 then (some ((q6.1, q9))) else none)) else (if (x.2 p3 0) = 9 then (f_X1_changes_74 q1 (1 : Int32) x) else (f_X1_changes_74 q1 (0 : Int32) x))) else none
def f_X1_passOne_5  : Nat → Nat → Nat → Int32 → Int32 → CS → Option (Int32 × CS)
  | 0, _, _, _, _, _ => none
  | n + 1, l1, l2, l3, l4, x => if (x.1 l1 4) ≤ l4 then (some ((l3, g_wi (g_wi x l2 3 ((x.1 l2 3) + (1 : Int32))) l2 4 (((g_wi x l2 3 ((x.1 l2 3) + (1 : Int32))).1 l2 4) + l3)))) else ((f_X5_rule l1 l4 x).bind fun q2 => if kd (q2) = 8 then ((f_X1_holds l1 l2 q2 x).bind fun q4 => if q4.1 = 0 then (f_X1_passOne_5 n l1 l2 l3 (l4 + (1 : Int32)) q4.2) else ((f_X1_changes l1 l2 q2 q4.2).bind fun q6 => if q6.1 = 0 then (f_X1_passOne_5 n l1 l2 l3 (l4 + (1 : Int32)) q6.2) else (f_X1_passOne_5 n l1 l2 (l3 + (1 : Int32)) (l4 + (1 : Int32)) q6.2))) else none)
def f_X1_passOne (p1 : Nat) (p2 : Nat) (x : CS) : Option (Int32 × CS) :=
  f_X1_passOne_5 g_fuel p1 p2 (0 : Int32) (0 : Int32) x
def f_X5_clear (t : Nat) (x : CS) : Option (CS) :=
  some (g_wi (g_wi (g_wi (g_wi x t 4 (0 : Int32)) t 5 (0 : Int32)) t 6 (4 : Int32)) t 7 (6 : Int32))
def f_X9_clear (t : Nat) (x : CS) : Option (CS) :=
  some (g_wi (g_wi (g_wi x t 2 (0 : Int32)) t 3 (0 : Int32)) t 4 (0 : Int32))
def f_X8_sign (p1 : Int32) (x : CS) : Option (Nat) :=
  if p1 < 0 then (some (45)) else (if (401 : Int32) ≤ p1 then (some (45)) else (if g_ok p1 401 = true then (some (x.2 4 p1.toNatClampNeg)) else none))
def f_X8_place (p1 : Int32) (x : CS) : Option (Int32) :=
  if p1 < 0 then (some ((0 : Int32))) else (if (401 : Int32) ≤ p1 then (some ((0 : Int32))) else (if g_ok p1 401 = true then (some (x.1 5 p1.toNatClampNeg)) else none))
def f_X8_value (p1 : Int32) (x : CS) : Option (Int32) :=
  if p1 < 0 then (some ((0 : Int32))) else (if (401 : Int32) ≤ p1 then (some ((0 : Int32))) else (if g_ok p1 401 = true then (some (x.1 7 p1.toNatClampNeg)) else none))
def f_X2_step (x : CS) : Option (CS) :=
  if (x.1 162 8) = (1 : Int32) then (some (x)) else ((f_X8_sign ((g_wi x 162 4 ((x.1 162 4) + (1 : Int32))).1 162 4) (g_wi x 162 4 ((x.1 162 4) + (1 : Int32)))).bind fun q2 => (f_X8_place ((g_wr (g_wi x 162 4 ((x.1 162 4) + (1 : Int32))) 162 5 q2).1 162 4) (g_wr (g_wi x 162 4 ((x.1 162 4) + (1 : Int32))) 162 5 q2)).bind fun q3 => (f_X8_value ((g_wi (g_wr (g_wi x 162 4 ((x.1 162 4) + (1 : Int32))) 162 5 q2) 162 6 q3).1 162 4) (g_wi (g_wr (g_wi x 162 4 ((x.1 162 4) + (1 : Int32))) 162 5 q2) 162 6 q3)).bind fun q4 => some (g_wi (g_wi (g_wr (g_wi x 162 4 ((x.1 162 4) + (1 : Int32))) 162 5 q2) 162 6 q3) 162 7 q4))
def f_X2_refuse (x : CS) : Option (CS) :=
  if (x.1 162 8) = (1 : Int32) then (some (x)) else (some (g_wr (g_wi (g_wi x 162 8 (1 : Int32)) 162 9 ((g_wi x 162 8 (1 : Int32)).1 162 6)) 162 5 45))
def f_X2_wordCalled_2 (x : CS) : Nat → Int32 → Int32 → Option (Int32)
  | 0, _, _ => none
  | n + 1, l1, l2 => if kd (x.2 162 2) = 9 then (if (x.1 (x.2 162 2) 2) ≤ l2 then (some ((-1 : Int32))) else (if (8 : Int32) ≤ l2 then (some ((-1 : Int32))) else (if g_ok l2 8 = true then (if (x.1 163 l2.toNatClampNeg) = l1 then (some (l2)) else (f_X2_wordCalled_2 x n l1 (l2 + (1 : Int32)))) else none))) else none
def f_X2_wordCalled (p1 : Int32) (x : CS) : Option (Int32) :=
  f_X2_wordCalled_2 x g_fuel p1 (0 : Int32)
def f_X2_blame (p1 : Int32) (x : CS) : Option (CS) :=
  if (x.1 162 8) = 0 then (some (g_wi (g_wi x 162 8 p1) 162 9 ((g_wi x 162 8 p1).1 162 6))) else (some (x))
def f_X9_addWord (t : Nat) (x : CS) : Option (CS) :=
  if (8 : Int32) ≤ (x.1 t 2) then (some (x)) else ((f_X9_word t (x.1 t 2) x).bind fun q2 => if kd (q2) = 10 then (some (g_wi (g_wi (g_wi (g_wi x (q2 + 1) 1 (0 : Int32)) q2 1 (0 : Int32)) q2 2 (999 : Int32)) t 2 (((g_wi (g_wi (g_wi x (q2 + 1) 1 (0 : Int32)) q2 1 (0 : Int32)) q2 2 (999 : Int32)).1 t 2) + (1 : Int32)))) else none)
def f_X2_readNewName_90 (x : CS) : Option (CS) :=
  (f_X2_step x).bind fun q13 => some (q13)
def f_X2_readNewName_32 (x : CS) : Option (CS) :=
  if kd (x.2 162 2) = 9 then (if (x.1 (x.2 162 2) 2) < (8 : Int32) then (if (8 : Int32) ≤ (x.1 (x.2 162 2) 2) then (f_X2_readNewName_90 x) else (if g_ok (x.1 (x.2 162 2) 2) 8 = true then (if kd ((g_wi x 163 (x.1 (x.2 162 2) 2).toNatClampNeg (x.1 162 7)).2 162 2) = 9 then ((f_X9_addWord ((g_wi x 163 (x.1 (x.2 162 2) 2).toNatClampNeg (x.1 162 7)).2 162 2) (g_wi x 163 (x.1 (x.2 162 2) 2).toNatClampNeg (x.1 162 7))).bind fun q11 => f_X2_readNewName_90 q11) else none) else none)) else ((f_X2_blame (4 : Int32) x).bind fun q12 => f_X2_readNewName_90 q12)) else none
def f_X2_readNewName (x : CS) : Option (CS) :=
  if (x.2 162 5) = 41 then ((f_X2_wordCalled (x.1 162 7) x).bind fun q2 => if q2 = (-1 : Int32) then (f_X2_readNewName_32 x) else ((f_X2_blame (2 : Int32) x).bind fun q4 => f_X2_readNewName_32 q4)) else ((f_X2_refuse x).bind fun q5 => some (q5))
def f_X2_expect (p1 : Nat) (x : CS) : Option (CS) :=
  if (x.2 162 5) = p1 then ((f_X2_step x).bind fun q3 => some (q3)) else ((f_X2_refuse x).bind fun q2 => some (q2))
def f_X2_readNumber_36 (l3 : Int32) (x : CS) : Option (Int32 × CS) :=
  (f_X2_step x).bind fun q6 => some ((l3, q6))
def f_X2_readNumber_31 (l3 : Int32) (x : CS) : Option (Int32 × CS) :=
  (f_X2_blame (5 : Int32) x).bind fun q5 => f_X2_readNumber_36 l3 q5
def f_X2_readNumber (p1 : Int32) (p2 : Int32) (x : CS) : Option (Int32 × CS) :=
  if (x.2 162 5) = 42 then (if (x.1 162 7) < p1 then (f_X2_readNumber_31 (x.1 162 7) x) else (if (x.1 162 7) ≤ p2 then (f_X2_readNumber_36 (x.1 162 7) x) else (f_X2_readNumber_31 (x.1 162 7) x))) else ((f_X2_refuse x).bind fun q4 => some (((0 : Int32), q4)))
def f_X3_add (t : Nat) (p1 : Int32) (x : CS) : Option (CS) :=
  if (x.1 t 1) < 0 then (some (x)) else (if (24 : Int32) ≤ (x.1 t 1) then (some (x)) else (if g_ok (x.1 t 1) 24 = true then (some (g_wi (g_wi x (t + 1) (x.1 t 1).toNatClampNeg p1) t 1 (((g_wi x (t + 1) (x.1 t 1).toNatClampNeg p1).1 t 1) + (1 : Int32)))) else none))
def f_X3_addGlide_3  : Nat → Nat → Int32 → Int32 → Int32 → Int32 → CS → Option (CS)
  | 0, _, _, _, _, _, _ => none
  | n + 1, l0, l1, l2, l3, l4, x => if l3 ≤ l4 then (some (x)) else (if (9 : Int32) ≤ l4 then (some (x)) else ((f_X12_quotient ((l2 - l1) * l4) l3).bind fun q3 => (f_X3_add l0 (l1 + q3) x).bind fun q4 => f_X3_addGlide_3 n l0 l1 l2 l3 (l4 + (1 : Int32)) q4))
def f_X3_addGlide (t : Nat) (p1 : Int32) (p2 : Int32) (p3 : Int32) (x : CS) : Option (CS) :=
  f_X3_addGlide_3 g_fuel t p1 p2 p3 (0 : Int32) x
def f_X2_readPart_98 (l1 : Nat) (l2 : Int32) (l3 : Int32) (x : CS) : Option (CS) :=
  (f_X2_expect 3 x).bind fun q13 => (f_X2_readNumber (1 : Int32) (g_min (9 : Int32) ((24 : Int32) - (q13.1 l1 1))) q13).bind fun q14 => (f_X3_addGlide l1 l2 l3 q14.1 q14.2).bind fun q15 => some (q15)
def f_X2_readPart (x : CS) : Option (CS) :=
  if kd (x.2 162 2) = 9 then ((f_X9_word (x.2 162 2) ((x.1 (x.2 162 2) 2) - (1 : Int32)) x).bind fun q2 => if kd (q2) = 10 then (if (x.2 162 5) = 2 then ((f_X2_step x).bind fun q11 => (f_X2_readNumber (1 : Int32) (40 : Int32) q11).bind fun q12 => f_X2_readPart_98 (q2 + 1) q12.1 q12.1 q12.2) else (if (x.2 162 5) = 4 then ((f_X2_step x).bind fun q7 => (f_X2_readNumber (1 : Int32) (40 : Int32) q7).bind fun q8 => (f_X2_expect 5 q8.2).bind fun q9 => (f_X2_readNumber (1 : Int32) (40 : Int32) q9).bind fun q10 => f_X2_readPart_98 (q2 + 1) q8.1 q10.1 q10.2) else ((f_X2_expect 6 x).bind fun q6 => f_X2_readPart_98 (q2 + 1) (0 : Int32) (0 : Int32) q6))) else none) else none
def f_X2_readWord_21  : Nat → Int32 → CS → Option (CS)
  | 0, _, _ => none
  | n + 1, l1, x => if (400 : Int32) ≤ l1 then (some (x)) else (if (x.2 162 5) = 31 then ((f_X2_step x).bind fun q7 => (f_X2_readPart q7).bind fun q8 => f_X2_readWord_21 n (l1 + (1 : Int32)) q8) else (some (x)))
def f_X2_readWord (x : CS) : Option (CS) :=
  (f_X2_step x).bind fun q1 => (f_X2_readNewName q1).bind fun q2 => (f_X2_expect 1 q2).bind fun q3 => (f_X2_readPart q3).bind fun q4 => f_X2_readWord_21 g_fuel (0 : Int32) q4
def f_X2_readKnownName_35 (l1 : Int32) (x : CS) : Option (Int32 × CS) :=
  (f_X2_step x).bind fun q6 => some ((l1, q6))
def f_X2_readKnownName (x : CS) : Option (Int32 × CS) :=
  if (x.2 162 5) = 41 then ((f_X2_wordCalled (x.1 162 7) x).bind fun q2 => if q2 = (-1 : Int32) then ((f_X2_blame (3 : Int32) x).bind fun q4 => f_X2_readKnownName_35 q2 q4) else (f_X2_readKnownName_35 q2 x)) else ((f_X2_refuse x).bind fun q5 => some (((-1 : Int32), q5)))
def f_X5_addSign (t : Nat) (p1 : Nat) (p2 : Int32) (x : CS) : Option (CS) :=
  if (x.1 t 5) < 0 then (some (x)) else (if (400 : Int32) ≤ (x.1 t 5) then (some (x)) else (if (400 : Int32) ≤ (x.1 t 5) then (some (x)) else (if g_ok (x.1 t 5) 400 = true then (if p1 < 46 then (if g_ok ((g_wr x (t + 3) (x.1 t 5).toNatClampNeg p1).1 t 5) 400 = true then (some (g_wi (g_wi (g_wr x (t + 3) (x.1 t 5).toNatClampNeg p1) (t + 4) ((g_wr x (t + 3) (x.1 t 5).toNatClampNeg p1).1 t 5).toNatClampNeg p2) t 5 (((g_wi (g_wr x (t + 3) (x.1 t 5).toNatClampNeg p1) (t + 4) ((g_wr x (t + 3) (x.1 t 5).toNatClampNeg p1).1 t 5).toNatClampNeg p2).1 t 5) + (1 : Int32)))) else none) else none) else none)))
def f_X2_readProduct_34 (val : Int32 → CS → Option CS) (k7 : Int32 → Int32 → CS → Option (CS)) (l1 : Int32) (l2 : Int32) (x : CS) : Option (CS) :=
  (f_X2_step x).bind fun q5 => (val l1 q5).bind fun q6 => if kd (q6.2 162 1) = 7 then ((f_X5_addSign (q6.2 162 1) (x.2 162 5) (0 : Int32) q6).bind fun q8 => k7 l1 (l2 + (1 : Int32)) q8) else none
def f_X2_readProduct_7 (val : Int32 → CS → Option CS) : Nat → Int32 → Int32 → CS → Option (CS)
  | 0, _, _, _ => none
  | n + 1, l1, l2, x => if (400 : Int32) ≤ l2 then (some (x)) else (if (x.2 162 5) = 34 then (f_X2_readProduct_34 val (f_X2_readProduct_7 val n) l1 l2 x) else (if (x.2 162 5) = 35 then (f_X2_readProduct_34 val (f_X2_readProduct_7 val n) l1 l2 x) else (some (x))))
def f_X2_readProduct (val : Int32 → CS → Option CS) (p1 : Int32) (x : CS) : Option (CS) :=
  (val p1 x).bind fun q1 => f_X2_readProduct_7 val g_fuel p1 (0 : Int32) q1
def f_X2_readSum_34 (val : Int32 → CS → Option CS) (k7 : Int32 → Int32 → CS → Option (CS)) (l1 : Int32) (l2 : Int32) (x : CS) : Option (CS) :=
  (f_X2_step x).bind fun q5 => (f_X2_readProduct val l1 q5).bind fun q6 => if kd (q6.2 162 1) = 7 then ((f_X5_addSign (q6.2 162 1) (x.2 162 5) (0 : Int32) q6).bind fun q8 => k7 l1 (l2 + (1 : Int32)) q8) else none
def f_X2_readSum_7 (val : Int32 → CS → Option CS) : Nat → Int32 → Int32 → CS → Option (CS)
  | 0, _, _, _ => none
  | n + 1, l1, l2, x => if (400 : Int32) ≤ l2 then (some (x)) else (if (x.2 162 5) = 32 then (f_X2_readSum_34 val (f_X2_readSum_7 val n) l1 l2 x) else (if (x.2 162 5) = 33 then (f_X2_readSum_34 val (f_X2_readSum_7 val n) l1 l2 x) else (some (x))))
def f_X2_readSum (val : Int32 → CS → Option CS) (p1 : Int32) (x : CS) : Option (CS) :=
  (f_X2_readProduct val p1 x).bind fun q1 => f_X2_readSum_7 val g_fuel p1 (0 : Int32) q1
def f_X2_requireDepth (p1 : Int32) (x : CS) : Option (CS) :=
  if p1 < (8 : Int32) then (some (x)) else ((f_X2_refuse x).bind fun q2 => some (q2))
def f_X2_readChoice_23 (val : Int32 → CS → Option CS) (l1 : Int32) (l2 : Nat) (x : CS) : Option (CS) :=
  (f_X2_requireDepth l1 x).bind fun q4 => (f_X2_step q4).bind fun q5 => (f_X2_readSum val (l1 + (1 : Int32)) q5).bind fun q6 => (f_X2_expect 31 q6).bind fun q7 => (f_X2_readSum val (l1 + (1 : Int32)) q7).bind fun q8 => (f_X2_expect 27 q8).bind fun q9 => if kd (q9.2 162 1) = 7 then ((f_X5_addSign (q9.2 162 1) l2 (0 : Int32) q9).bind fun q11 => some (q11)) else none
def f_X2_readChoice (val : Int32 → CS → Option CS) (p1 : Int32) (x : CS) : Option (CS) :=
  (f_X2_step x).bind fun q1 => if (q1.2 162 5) = 26 then (f_X2_readChoice_23 val p1 (x.2 162 5) q1) else ((f_X2_refuse q1).bind fun q3 => f_X2_readChoice_23 val p1 (x.2 162 5) q3)
def f_X2_readValue_185 (val : Int32 → CS → Option CS) (x : CS) : Option (CS) :=
  if kd (x.2 162 1) = 7 then ((f_X5_addSign (x.2 162 1) (x.2 162 5) (x.1 162 7) x).bind fun q27 => (f_X2_step q27).bind fun q28 => some (q28)) else none
def f_X2_readValue_124 (val : Int32 → CS → Option CS) (x : CS) : Option (CS) :=
  (f_X2_step x).bind fun q21 => (f_X2_expect 18 q21).bind fun q22 => if kd (q22.2 162 1) = 7 then ((f_X2_readKnownName q22).bind fun q24 => (f_X5_addSign (q22.2 162 1) (x.2 162 5) q24.1 q24.2).bind fun q25 => some (q25)) else none
def f_X2_readValue_96 (val : Int32 → CS → Option CS) (l1 : Int32) (x : CS) : Option (CS) :=
  (f_X2_readChoice val l1 x).bind fun q20 => some (q20)
def f_X2_readValue : Nat → Int32 → CS → Option (CS)
  | 0, _, _ => none
  | n + 1, p1, x => if (x.2 162 5) = 33 then ((f_X2_requireDepth p1 x).bind fun q15 => (f_X2_step q15).bind fun q16 => (f_X2_readValue n (p1 + (1 : Int32)) q16).bind fun q17 => if kd (q17.2 162 1) = 7 then ((f_X5_addSign (q17.2 162 1) 43 (0 : Int32) q17).bind fun q19 => some (q19)) else none) else (if (x.2 162 5) = 26 then ((f_X2_requireDepth p1 x).bind fun q11 => (f_X2_step q11).bind fun q12 => (f_X2_readSum (f_X2_readValue n) (p1 + (1 : Int32)) q12).bind fun q13 => (f_X2_expect 27 q13).bind fun q14 => some (q14)) else (if (x.2 162 5) = 24 then (f_X2_readValue_96 (f_X2_readValue n) p1 x) else (if (x.2 162 5) = 25 then (f_X2_readValue_96 (f_X2_readValue n) p1 x) else (if (x.2 162 5) = 16 then (f_X2_readValue_124 (f_X2_readValue n) x) else (if (x.2 162 5) = 17 then (f_X2_readValue_124 (f_X2_readValue n) x) else (if (x.2 162 5) = 42 then (f_X2_readValue_185 (f_X2_readValue n) x) else (if (x.2 162 5) = 14 then (f_X2_readValue_185 (f_X2_readValue n) x) else (if (x.2 162 5) = 15 then (f_X2_readValue_185 (f_X2_readValue n) x) else ((f_X2_refuse x).bind fun q10 => some (q10))))))))))
def f_X2_readBoth_7 (sgl : Int32 → CS → Option CS) : Nat → Int32 → Int32 → CS → Option (CS)
  | 0, _, _, _ => none
  | n + 1, l1, l2, x => if (400 : Int32) ≤ l2 then (some (x)) else (if (x.2 162 5) = 22 then ((f_X2_step x).bind fun q4 => (sgl l1 q4).bind fun q5 => if kd (q5.2 162 1) = 7 then ((f_X5_addSign (q5.2 162 1) 22 (0 : Int32) q5).bind fun q7 => f_X2_readBoth_7 sgl n l1 (l2 + (1 : Int32)) q7) else none) else (some (x)))
def f_X2_readBoth (sgl : Int32 → CS → Option CS) (p1 : Int32) (x : CS) : Option (CS) :=
  (sgl p1 x).bind fun q1 => f_X2_readBoth_7 sgl g_fuel p1 (0 : Int32) q1
def f_X2_readTest_7 (sgl : Int32 → CS → Option CS) : Nat → Int32 → Int32 → CS → Option (CS)
  | 0, _, _, _ => none
  | n + 1, l1, l2, x => if (400 : Int32) ≤ l2 then (some (x)) else (if (x.2 162 5) = 23 then ((f_X2_step x).bind fun q4 => (f_X2_readBoth sgl l1 q4).bind fun q5 => if kd (q5.2 162 1) = 7 then ((f_X5_addSign (q5.2 162 1) 23 (0 : Int32) q5).bind fun q7 => f_X2_readTest_7 sgl n l1 (l2 + (1 : Int32)) q7) else none) else (some (x)))
def f_X2_readTest (sgl : Int32 → CS → Option CS) (p1 : Int32) (x : CS) : Option (CS) :=
  (f_X2_readBoth sgl p1 x).bind fun q1 => f_X2_readTest_7 sgl g_fuel p1 (0 : Int32) q1
def f_X2_isComparison (x : CS) : Option (Int32) :=
  if (x.2 162 5) = 36 then (some ((1 : Int32))) else (if (x.2 162 5) = 37 then (some ((1 : Int32))) else (if (x.2 162 5) = 38 then (some ((1 : Int32))) else (if (x.2 162 5) = 39 then (some ((1 : Int32))) else (if (x.2 162 5) = 40 then (some ((1 : Int32))) else (some ((0 : Int32)))))))
def f_X2_readSingle_148 (sgl : Int32 → CS → Option CS) (l1 : Int32) (l2 : Nat) (x : CS) : Option (CS) :=
  (f_X2_readSum (f_X2_readValue 12) l1 x).bind fun q23 => if kd (q23.2 162 1) = 7 then ((f_X5_addSign (q23.2 162 1) l2 (0 : Int32) q23).bind fun q25 => some (q25)) else none
def f_X2_readSingle_96 (sgl : Int32 → CS → Option CS) (x : CS) : Option (CS) :=
  (f_X2_step x).bind fun q19 => if kd (q19.2 162 1) = 7 then ((f_X2_readKnownName q19).bind fun q21 => (f_X5_addSign (q19.2 162 1) (x.2 162 5) q21.1 q21.2).bind fun q22 => some (q22)) else none
def f_X2_readSingle : Nat → Int32 → CS → Option (CS)
  | 0, _, _ => none
  | n + 1, p1, x => if (x.2 162 5) = 21 then ((f_X2_requireDepth p1 x).bind fun q14 => (f_X2_step q14).bind fun q15 => (f_X2_readSingle n (p1 + (1 : Int32)) q15).bind fun q16 => if kd (q16.2 162 1) = 7 then ((f_X5_addSign (q16.2 162 1) 21 (0 : Int32) q16).bind fun q18 => some (q18)) else none) else (if (x.2 162 5) = 28 then ((f_X2_requireDepth p1 x).bind fun q10 => (f_X2_step q10).bind fun q11 => (f_X2_readTest (f_X2_readSingle n) (p1 + (1 : Int32)) q11).bind fun q12 => (f_X2_expect 29 q12).bind fun q13 => some (q13)) else (if (x.2 162 5) = 19 then (f_X2_readSingle_96 (f_X2_readSingle n) x) else (if (x.2 162 5) = 20 then (f_X2_readSingle_96 (f_X2_readSingle n) x) else ((f_X2_readSum (f_X2_readValue 12) p1 x).bind fun q5 => (f_X2_isComparison q5).bind fun q6 => if q6 = 0 then ((f_X2_refuse q5).bind fun q8 => f_X2_readSingle_148 (f_X2_readSingle n) p1 (q5.2 162 5) q8) else ((f_X2_step q5).bind fun q9 => f_X2_readSingle_148 (f_X2_readSingle n) p1 (q5.2 162 5) q9)))))
def f_X5_addRule (t : Nat) (p1 : Nat) (p2 : Int32) (p3 : Int32) (p4 : Int32) (x : CS) : Option (CS) :=
  if (16 : Int32) ≤ (x.1 t 4) then (some (x)) else ((f_X5_rule t (x.1 t 4) x).bind fun q2 => if kd (q2) = 8 then (some (g_wi (g_wi (g_wi (g_wi (g_wi (g_wr x q2 0 p1) q2 1 p2) q2 2 p3) q2 3 p4) q2 4 ((g_wi (g_wi (g_wi (g_wr x q2 0 p1) q2 1 p2) q2 2 p3) q2 3 p4).1 t 5)) t 4 (((g_wi (g_wi (g_wi (g_wi (g_wr x q2 0 p1) q2 1 p2) q2 2 p3) q2 3 p4) q2 4 ((g_wi (g_wi (g_wi (g_wr x q2 0 p1) q2 1 p2) q2 2 p3) q2 3 p4).1 t 5)).1 t 4) + (1 : Int32)))) else none)
def f_X2_readRule_121 (l1 : Nat) (l2 : Int32) (l3 : Int32) (l4 : Int32) (x : CS) : Option (CS) :=
  if kd (x.2 162 1) = 7 then ((f_X5_addRule (x.2 162 1) l1 l2 l3 l4 x).bind fun q19 => some (q19)) else none
def f_X2_readRule_93 (l1 : Nat) (l2 : Int32) (l3 : Int32) (x : CS) : Option (CS) :=
  if kd (x.2 162 1) = 7 then (if (x.2 162 5) = 13 then ((f_X2_step x).bind fun q16 => (f_X2_readTest (f_X2_readSingle 12) (0 : Int32) q16).bind fun q17 => f_X2_readRule_121 l1 l2 l3 (x.1 (x.2 162 1) 5) q17) else (f_X2_readRule_121 l1 l2 l3 (x.1 (x.2 162 1) 5) x)) else none
def f_X2_readRule_52 (x : CS) : Option (CS) :=
  (f_X2_step x).bind fun q8 => (f_X2_readKnownName q8).bind fun q9 => if kd (q9.2.2 162 1) = 7 then (if (x.2 162 5) = 11 then ((f_X2_expect 12 q9.2).bind fun q12 => (f_X2_readSum (f_X2_readValue 12) (0 : Int32) q12).bind fun q13 => f_X2_readRule_93 (x.2 162 5) q9.1 (q9.2.1 (q9.2.2 162 1) 5) q13) else (f_X2_readRule_93 (x.2 162 5) q9.1 (q9.2.1 (q9.2.2 162 1) 5) q9.2)) else none
def f_X2_readRule_35 (x : CS) : Option (CS) :=
  if kd (x.2 162 1) = 7 then (if (x.1 (x.2 162 1) 4) < (16 : Int32) then (f_X2_readRule_52 x) else ((f_X2_blame (4 : Int32) x).bind fun q7 => f_X2_readRule_52 q7)) else none
def f_X2_readRule (x : CS) : Option (CS) :=
  if (x.2 162 5) = 9 then (f_X2_readRule_35 x) else (if (x.2 162 5) = 10 then (f_X2_readRule_35 x) else (if (x.2 162 5) = 11 then (f_X2_readRule_35 x) else ((f_X2_refuse x).bind fun q4 => some (q4))))
def f_X2_readLanguage_128 (k20 : Int32 → CS → Option (CS)) (l1 : Int32) (x : CS) : Option (CS) :=
  (f_X2_expect 30 x).bind fun q20 => k20 (l1 + (1 : Int32)) q20
def f_X2_readLanguage_20  : Nat → Int32 → CS → Option (CS)
  | 0, _, _ => none
  | n + 1, l1, x => if (400 : Int32) ≤ l1 then (some (x)) else (if (x.1 162 8) = (1 : Int32) then (some (x)) else (if (x.2 162 5) = 44 then (some (x)) else (if (x.2 162 5) = 0 then ((f_X2_readWord x).bind fun q19 => f_X2_readLanguage_128 (f_X2_readLanguage_20 n) l1 q19) else (if (x.2 162 5) = 7 then ((f_X2_step x).bind fun q16 => if kd (q16.2 162 1) = 7 then ((f_X2_readNumber (0 : Int32) (20 : Int32) q16).bind fun q18 => f_X2_readLanguage_128 (f_X2_readLanguage_20 n) l1 (g_wi q18.2 (q16.2 162 1) 6 q18.1)) else none) else (if (x.2 162 5) = 8 then ((f_X2_step x).bind fun q13 => if kd (q13.2 162 1) = 7 then ((f_X2_readNumber (0 : Int32) (99 : Int32) q13).bind fun q15 => f_X2_readLanguage_128 (f_X2_readLanguage_20 n) l1 (g_wi q15.2 (q13.2 162 1) 7 q15.1)) else none) else ((f_X2_readRule x).bind fun q12 => f_X2_readLanguage_128 (f_X2_readLanguage_20 n) l1 q12))))))
def f_X2_readLanguage (x : CS) : Option (CS) :=
  if kd (x.2 162 1) = 7 then ((f_X5_clear (x.2 162 1) x).bind fun q2 => if kd (q2.2 162 2) = 9 then ((f_X9_clear (q2.2 162 2) q2).bind fun q4 => (f_X2_step q4).bind fun q5 => f_X2_readLanguage_20 g_fuel (0 : Int32) q5) else none) else none
def f_X3_contour (t : Nat) (p1 : Int32) (x : CS) : Option (Int32) :=
  if p1 < 0 then (some ((0 : Int32))) else (if p1 < ((x.1 t 1) - (1 : Int32)) then ((f_X3_pitch t p1 x).bind fun q3 => (f_X3_pitch t (p1 + (1 : Int32)) x).bind fun q4 => if q4 ≤ q3 then (if q3 ≤ q4 then (some ((0 : Int32))) else (some ((-1 : Int32)))) else (some ((1 : Int32)))) else (some ((0 : Int32))))
def f_X3_countSilent_4 (x : CS) : Nat → Nat → Int32 → Int32 → Option (Int32)
  | 0, _, _, _ => none
  | n + 1, l0, l1, l2 => if (x.1 l0 1) ≤ l2 then (some (l1)) else ((f_X3_pitch l0 l2 x).bind fun q2 => if q2 = 0 then (f_X3_countSilent_4 x n l0 (l1 + (1 : Int32)) (l2 + (1 : Int32))) else (f_X3_countSilent_4 x n l0 l1 (l2 + (1 : Int32))))
def f_X3_countSilent (t : Nat) (x : CS) : Option (Int32) :=
  f_X3_countSilent_4 x g_fuel t (0 : Int32) (0 : Int32)
def f_X3_copyFrom_10  : Nat → Nat → Nat → Int32 → CS → Option (CS)
  | 0, _, _, _, _ => none
  | n + 1, l0, l1, l2, x => if (24 : Int32) ≤ l2 then (some (x)) else ((f_X3_pitch l1 l2 x).bind fun q2 => if g_ok l2 24 = true then (f_X3_copyFrom_10 n l0 l1 (l2 + (1 : Int32)) (g_wi x (l0 + 1) l2.toNatClampNeg q2)) else none)
def f_X3_copyFrom (t : Nat) (p1 : Nat) (x : CS) : Option (CS) :=
  f_X3_copyFrom_10 g_fuel t p1 (0 : Int32) (g_wi x t 1 (x.1 p1 1))
def f_X3_traceContour_10  : Nat → Nat → Nat → Int32 → CS → Option (CS)
  | 0, _, _, _, _ => none
  | n + 1, l0, l1, l2, x => if (24 : Int32) ≤ l2 then (some (x)) else ((f_X3_contour l1 l2 x).bind fun q2 => if g_ok l2 24 = true then (f_X3_traceContour_10 n l0 l1 (l2 + (1 : Int32)) (g_wi x (l0 + 1) l2.toNatClampNeg q2)) else none)
def f_X3_traceContour (t : Nat) (p1 : Nat) (x : CS) : Option (CS) :=
  f_X3_traceContour_10 g_fuel t p1 (0 : Int32) (g_wi x t 1 (x.1 p1 1))
def f_X7_append_3  : Nat → Int32 → Int32 → CS → Option (CS)
  | 0, _, _, _ => none
  | n + 1, l1, l2, x => if l2 < 0 then (some (x)) else (if (x.1 1 1) < 0 then (f_X7_append_3 n l1 (l2 + (-8 : Int32)) x) else (if (2000 : Int32) ≤ (x.1 1 1) then (f_X7_append_3 n l1 (l2 + (-8 : Int32)) x) else (if g_ok (x.1 1 1) 2000 = true then (f_X7_append_3 n l1 (l2 + (-8 : Int32)) (g_wi (g_wi x 2 (x.1 1 1).toNatClampNeg (vp_nar .char (((((l1.toUInt32 >>> (l2.toUInt32 &&& Int32.toUInt32 31)).toInt32) &&& (255 : Int32)).toUInt32 % 65536).toInt32))) 1 1 (((g_wi x 2 (x.1 1 1).toNatClampNeg (vp_nar .char (((((l1.toUInt32 >>> (l2.toUInt32 &&& Int32.toUInt32 31)).toInt32) &&& (255 : Int32)).toUInt32 % 65536).toInt32))).1 1 1) + (1 : Int32)))) else none)))
def f_X7_append (p1 : Int32) (x : CS) : Option (CS) :=
  f_X7_append_3 g_fuel p1 (24 : Int32) x
def f_X7_byteAt (p1 : Int32) (x : CS) : Option (Int32) :=
  if p1 < 0 then (some ((-1 : Int32))) else (if (x.1 1 1) ≤ p1 then (some ((-1 : Int32))) else (if (2000 : Int32) ≤ p1 then (some ((-1 : Int32))) else (if g_ok p1 2000 = true then (some (x.1 2 p1.toNatClampNeg)) else none)))
def f_X7_isLetter (p1 : Int32) (x : CS) : Option (Int32) :=
  (f_X7_byteAt p1 x).bind fun q1 => if q1 < (97 : Int32) then (some ((0 : Int32))) else (if (122 : Int32) < q1 then (some ((0 : Int32))) else (some ((1 : Int32))))
def f_X7_isDigit (p1 : Int32) (x : CS) : Option (Int32) :=
  (f_X7_byteAt p1 x).bind fun q1 => if q1 < (48 : Int32) then (some ((0 : Int32))) else (if (57 : Int32) < q1 then (some ((0 : Int32))) else (some ((1 : Int32))))
def f_X7_behindBlanks_2 (x : CS) : Nat → Int32 → Option (Int32)
  | 0, _ => none
  | n + 1, l2 => if (x.1 1 1) ≤ l2 then (some (l2)) else ((f_X7_byteAt l2 x).bind fun q2 => if q2 = (32 : Int32) then (f_X7_behindBlanks_2 x n (l2 + (1 : Int32))) else ((f_X7_byteAt l2 x).bind fun q4 => if q4 = (10 : Int32) then (f_X7_behindBlanks_2 x n (l2 + (1 : Int32))) else (some (l2))))
def f_X7_behindBlanks (p1 : Int32) (x : CS) : Option (Int32) :=
  f_X7_behindBlanks_2 x g_fuel p1
def f_X7_spells_2 (x : CS) : Nat → Int32 → Nat → Int32 → Option (Int32)
  | 0, _, _, _ => none
  | n + 1, l1, l2, l3 => if l2 < 93 then ((f_J0_length_8abf5 l2).bind fun q1 => if q1 ≤ l3 then (some ((1 : Int32))) else ((f_X7_byteAt (l1 + l3) x).bind fun q3 => if l2 < 93 then ((f_J0_charAt_5068e l2 l3).bind fun q4 => if q3 = q4 then (f_X7_spells_2 x n l1 l2 (l3 + (1 : Int32))) else (some ((0 : Int32)))) else none)) else none
def f_X7_spells (p1 : Int32) (p2 : Nat) (x : CS) : Option (Int32) :=
  f_X7_spells_2 x g_fuel p1 p2 (0 : Int32)
def f_X7_alike_3 (x : CS) : Nat → Int32 → Int32 → Int32 → Int32 → Option (Int32)
  | 0, _, _, _, _ => none
  | n + 1, l1, l2, l3, l4 => if l3 ≤ l4 then (some ((1 : Int32))) else ((f_X7_byteAt (l1 + l4) x).bind fun q2 => (f_X7_byteAt (l2 + l4) x).bind fun q3 => if q2 = q3 then (f_X7_alike_3 x n l1 l2 l3 (l4 + (1 : Int32))) else (some ((0 : Int32))))
def f_X7_alike (p1 : Int32) (p2 : Int32) (p3 : Int32) (x : CS) : Option (Int32) :=
  f_X7_alike_3 x g_fuel p1 p2 p3 (0 : Int32)
def f_X8_size (p1 : Int32) (x : CS) : Option (Int32) :=
  if p1 < 0 then (some ((0 : Int32))) else (if (401 : Int32) ≤ p1 then (some ((0 : Int32))) else (if g_ok p1 401 = true then (some (x.1 6 p1.toNatClampNeg)) else none))
def f_X8_add (p1 : Nat) (p2 : Int32) (p3 : Int32) (p4 : Int32) (x : CS) : Option (CS) :=
  if (x.1 3 5) < 0 then (some (x)) else (if (401 : Int32) ≤ (x.1 3 5) then (some (x)) else (if (401 : Int32) ≤ (x.1 3 5) then (some (x)) else (if (401 : Int32) ≤ (x.1 3 5) then (some (x)) else (if (401 : Int32) ≤ (x.1 3 5) then (some (x)) else (if g_ok (x.1 3 5) 401 = true then (if p1 < 46 then (if g_ok ((g_wr x 4 (x.1 3 5).toNatClampNeg p1).1 3 5) 401 = true then (if g_ok ((g_wi (g_wr x 4 (x.1 3 5).toNatClampNeg p1) 5 ((g_wr x 4 (x.1 3 5).toNatClampNeg p1).1 3 5).toNatClampNeg p2).1 3 5) 401 = true then (if g_ok ((g_wi (g_wi (g_wr x 4 (x.1 3 5).toNatClampNeg p1) 5 ((g_wr x 4 (x.1 3 5).toNatClampNeg p1).1 3 5).toNatClampNeg p2) 6 ((g_wi (g_wr x 4 (x.1 3 5).toNatClampNeg p1) 5 ((g_wr x 4 (x.1 3 5).toNatClampNeg p1).1 3 5).toNatClampNeg p2).1 3 5).toNatClampNeg p3).1 3 5) 401 = true then (some (g_wi (g_wi (g_wi (g_wi (g_wr x 4 (x.1 3 5).toNatClampNeg p1) 5 ((g_wr x 4 (x.1 3 5).toNatClampNeg p1).1 3 5).toNatClampNeg p2) 6 ((g_wi (g_wr x 4 (x.1 3 5).toNatClampNeg p1) 5 ((g_wr x 4 (x.1 3 5).toNatClampNeg p1).1 3 5).toNatClampNeg p2).1 3 5).toNatClampNeg p3) 7 ((g_wi (g_wi (g_wr x 4 (x.1 3 5).toNatClampNeg p1) 5 ((g_wr x 4 (x.1 3 5).toNatClampNeg p1).1 3 5).toNatClampNeg p2) 6 ((g_wi (g_wr x 4 (x.1 3 5).toNatClampNeg p1) 5 ((g_wr x 4 (x.1 3 5).toNatClampNeg p1).1 3 5).toNatClampNeg p2).1 3 5).toNatClampNeg p3).1 3 5).toNatClampNeg p4) 3 5 (((g_wi (g_wi (g_wi (g_wr x 4 (x.1 3 5).toNatClampNeg p1) 5 ((g_wr x 4 (x.1 3 5).toNatClampNeg p1).1 3 5).toNatClampNeg p2) 6 ((g_wi (g_wr x 4 (x.1 3 5).toNatClampNeg p1) 5 ((g_wr x 4 (x.1 3 5).toNatClampNeg p1).1 3 5).toNatClampNeg p2).1 3 5).toNatClampNeg p3) 7 ((g_wi (g_wi (g_wr x 4 (x.1 3 5).toNatClampNeg p1) 5 ((g_wr x 4 (x.1 3 5).toNatClampNeg p1).1 3 5).toNatClampNeg p2) 6 ((g_wi (g_wr x 4 (x.1 3 5).toNatClampNeg p1) 5 ((g_wr x 4 (x.1 3 5).toNatClampNeg p1).1 3 5).toNatClampNeg p2).1 3 5).toNatClampNeg p3).1 3 5).toNatClampNeg p4).1 3 5) + (1 : Int32)))) else none) else none) else none) else none) else none)))))
def f_X8_longestSpelled_6 (x : CS) : Nat → Int32 → Nat → Int32 → Option (Nat)
  | 0, _, _, _ => none
  | n + 1, l1, l2, l3 => if (46 : Int32) ≤ l3 then (some (l2)) else (if g_ok l3 46 = true then (if l3.toNatClampNeg < 46 then (if l3.toNatClampNeg < 93 then ((f_J0_length_8abf5 l3.toNatClampNeg).bind fun q4 => if l2 < 46 then (if l2 < 93 then ((f_J0_length_8abf5 l2).bind fun q6 => if q4 ≤ q6 then (f_X8_longestSpelled_6 x n l1 l2 (l3 + (1 : Int32))) else ((f_X7_spells l1 l3.toNatClampNeg x).bind fun q8 => if q8 = 0 then (f_X8_longestSpelled_6 x n l1 l2 (l3 + (1 : Int32))) else (if g_ok l3 46 = true then (f_X8_longestSpelled_6 x n l1 l3.toNatClampNeg (l3 + (1 : Int32))) else none))) else none) else none) else none) else none) else none)
def f_X8_longestSpelled (p1 : Int32) (x : CS) : Option (Nat) :=
  f_X8_longestSpelled_6 x g_fuel p1 45 (0 : Int32)
def f_X8_firstAlike_2 (x : CS) : Nat → Int32 → Int32 → Int32 → Option (Int32)
  | 0, _, _, _ => none
  | n + 1, l1, l2, l3 => if (x.1 3 5) ≤ l3 then (some (x.1 3 5)) else ((f_X8_sign l3 x).bind fun q2 => if q2 = 41 then ((f_X8_size l3 x).bind fun q4 => if q4 = l2 then ((f_X8_place l3 x).bind fun q6 => (f_X7_alike q6 l1 l2 x).bind fun q7 => if q7 = 0 then (f_X8_firstAlike_2 x n l1 l2 (l3 + (1 : Int32))) else (some (l3))) else (f_X8_firstAlike_2 x n l1 l2 (l3 + (1 : Int32)))) else (f_X8_firstAlike_2 x n l1 l2 (l3 + (1 : Int32))))
def f_X8_firstAlike (p1 : Int32) (p2 : Int32) (x : CS) : Option (Int32) :=
  f_X8_firstAlike_2 x g_fuel p1 p2 (0 : Int32)
def f_X8_readWord_41 (l1 : Int32) (l2 : Int32) (x : CS) : Option (CS) :=
  if (l2 - l1) ≤ (10 : Int32) then ((f_X8_longestSpelled l1 x).bind fun q7 => if q7 < 46 then (if q7 < 93 then ((f_J0_length_8abf5 q7).bind fun q9 => if q9 = (l2 - l1) then ((f_X8_add q7 l1 (l2 - l1) (0 : Int32) x).bind fun q13 => some (q13)) else ((f_X8_firstAlike l1 (l2 - l1) x).bind fun q11 => (f_X8_add 41 l1 (l2 - l1) q11 x).bind fun q12 => some (q12))) else none) else none) else ((f_X8_add 45 l1 (l2 - l1) (0 : Int32) x).bind fun q15 => some (q15))
def f_X8_readWord_2  : Nat → Int32 → Int32 → CS → Option (CS)
  | 0, _, _, _ => none
  | n + 1, l1, l2, x => if (x.1 1 1) ≤ l2 then (f_X8_readWord_41 l1 l2 x) else ((f_X7_isLetter l2 x).bind fun q2 => if q2 = 0 then ((f_X7_isDigit l2 x).bind fun q4 => if q4 = 0 then (f_X8_readWord_41 l1 l2 x) else (f_X8_readWord_2 n l1 (l2 + (1 : Int32)) x)) else (f_X8_readWord_2 n l1 (l2 + (1 : Int32)) x))
def f_X8_readWord (p1 : Int32) (x : CS) : Option (CS) :=
  f_X8_readWord_2 g_fuel p1 p1 x
def f_X8_readNumber_71 (l1 : Int32) (l3 : Int32) (l4 : Int32) (s0 : Nat) (x : CS) : Option (CS) :=
  (f_X8_add s0 l1 l4 l3 x).bind fun q6 => some (q6)
def f_X8_readNumber_49 (l1 : Int32) (l2 : Int32) (l3 : Int32) (x : CS) : Option (CS) :=
  if (l2 - l1) ≤ (6 : Int32) then (f_X8_readNumber_71 l1 l3 (l2 - l1) 42 x) else (f_X8_readNumber_71 l1 l3 (l2 - l1) 45 x)
def f_X8_readNumber_4  : Nat → Int32 → Int32 → Int32 → CS → Option (CS)
  | 0, _, _, _, _ => none
  | n + 1, l1, l2, l3, x => if (x.1 1 1) ≤ l2 then (f_X8_readNumber_49 l1 l2 l3 x) else ((f_X7_isDigit l2 x).bind fun q2 => if q2 = 0 then (f_X8_readNumber_49 l1 l2 l3 x) else ((f_X7_byteAt l2 x).bind fun q4 => f_X8_readNumber_4 n l1 (l2 + (1 : Int32)) (((l3 * (10 : Int32)) + q4) - (48 : Int32)) x))
def f_X8_readNumber (p1 : Int32) (x : CS) : Option (CS) :=
  f_X8_readNumber_4 g_fuel p1 p1 (0 : Int32) x
def f_X8_readSymbol (p1 : Int32) (x : CS) : Option (CS) :=
  (f_X8_longestSpelled p1 x).bind fun q1 => if q1 < 46 then (if q1 < 93 then ((f_J0_length_8abf5 q1).bind fun q3 => (f_X8_add q1 p1 q3 (0 : Int32) x).bind fun q4 => some (q4)) else none) else none
def f_X8_readToken (p1 : Int32) (x : CS) : Option (CS) :=
  if p1 < (x.1 1 1) then (if (x.1 3 5) < (400 : Int32) then ((f_X7_isLetter p1 x).bind fun q3 => if q3 = 0 then ((f_X7_isDigit p1 x).bind fun q5 => if q5 = 0 then ((f_X8_readSymbol p1 x).bind fun q7 => some (q7)) else ((f_X8_readNumber p1 x).bind fun q8 => some (q8))) else ((f_X8_readWord p1 x).bind fun q9 => some (q9))) else ((f_X8_add 45 p1 (0 : Int32) (0 : Int32) x).bind fun q10 => some (q10))) else ((f_X8_add 44 p1 (0 : Int32) (0 : Int32) x).bind fun q11 => some (q11))
def f_X8_readTape_16  : Nat → Int32 → Int32 → CS → Option (CS)
  | 0, _, _, _ => none
  | n + 1, l1, l2, x => if (400 : Int32) < l2 then (some (x)) else ((f_X8_readToken l1 x).bind fun q3 => (f_X8_sign l2 q3).bind fun q4 => if q4 = 44 then (some (q3)) else ((f_X8_sign l2 q3).bind fun q6 => if q6 = 45 then (some (q3)) else ((f_X8_size l2 q3).bind fun q8 => (f_X7_behindBlanks (l1 + q8) q3).bind fun q9 => f_X8_readTape_16 n q9 (l2 + (1 : Int32)) q3)))
def f_X8_readTape (x : CS) : Option (CS) :=
  (f_X7_behindBlanks (0 : Int32) (g_wi x 3 5 (0 : Int32))).bind fun q1 => f_X8_readTape_16 g_fuel q1 (0 : Int32) (g_wi x 3 5 (0 : Int32))
def f_X9_copyFrom_26  : Nat → Nat → Nat → Int32 → CS → Option (CS)
  | 0, _, _, _, _ => none
  | n + 1, l0, l1, l2, x => if (x.1 l0 2) ≤ l2 then (some (x)) else ((f_X9_word l0 l2 x).bind fun q2 => if kd (q2) = 10 then ((f_X9_word l1 l2 x).bind fun q4 => if kd (q4) = 10 then ((f_X3_copyFrom (q2 + 1) (q4 + 1) x).bind fun q6 => (f_X9_word l0 l2 q6).bind fun q7 => if kd (q7) = 10 then ((f_X9_word l1 l2 q6).bind fun q9 => if kd (q9) = 10 then (if (q6.1 q9 1) = 0 ∨ (q6.1 q9 1) = 1 then ((f_X9_word l0 l2 (g_wi q6 q7 1 (q6.1 q9 1))).bind fun q12 => if kd (q12) = 10 then ((f_X9_word l1 l2 (g_wi q6 q7 1 (q6.1 q9 1))).bind fun q14 => if kd (q14) = 10 then (f_X9_copyFrom_26 n l0 l1 (l2 + (1 : Int32)) (g_wi (g_wi q6 q7 1 (q6.1 q9 1)) q12 2 ((g_wi q6 q7 1 (q6.1 q9 1)).1 q14 2))) else none) else none) else none) else none) else none) else none) else none)
def f_X9_copyFrom (t : Nat) (p1 : Nat) (x : CS) : Option (CS) :=
  f_X9_copyFrom_26 g_fuel t p1 (0 : Int32) (g_wi (g_wi (g_wi x t 2 (x.1 p1 2)) t 3 ((g_wi x t 2 (x.1 p1 2)).1 p1 3)) t 4 ((g_wi (g_wi x t 2 (x.1 p1 2)) t 3 ((g_wi x t 2 (x.1 p1 2)).1 p1 3)).1 p1 4))
def f_X10_fewestSteps (p1 : Nat) (p2 : Nat) (p3 : Int32) (x : CS) : Option (Int32 × CS) :=
  (f_X10_lightest p1 p2 p3 (0 : Int32) x).bind fun q1 => some ((q1.1 - q1.1 / (64 : Int32) * (64 : Int32), q1.2))
def f_X10_contourDistance (p1 : Nat) (p2 : Nat) (p3 : Int32) (x : CS) : Option (Int32 × CS) :=
  (f_X3_traceContour 10 p1 x).bind fun q1 => (f_X3_traceContour 12 p2 q1).bind fun q2 => (f_X10_lightest 10 12 p3 (1 : Int32) q2).bind fun q3 => some ((q3.1 / (64 : Int32), q3.2))
def f_X12_feed (p1 : Int32) (p2 : Int32) (p3 : Int32) (p4 : Int32) (p5 : Int32) (x : CS) : Option (Int32 × CS) :=
  if (x.1 1 1) ≤ (1980 : Int32) then ((f_X7_append p1 x).bind fun q2 => (f_X7_append p2 q2).bind fun q3 => (f_X7_append p3 q3).bind fun q4 => (f_X7_append p4 q4).bind fun q5 => (f_X7_append p5 q5).bind fun q6 => some ((q6.1 1 1, q6))) else (none)
def f_X12_trim_15 (x : CS) : Option (Int32 × CS) :=
  none
def f_X12_trim (p1 : Int32) (x : CS) : Option (Int32 × CS) :=
  if p1 < 0 then (f_X12_trim_15 x) else (if p1 ≤ (x.1 1 1) then (some ((p1, g_wi x 1 1 p1))) else (f_X12_trim_15 x))
def f_X12_words (x : CS) : Option (Int32) :=
  if kd (x.2 0 7) = 9 then (some (x.1 (x.2 0 7) 2)) else none
def f_X12_keptWords (x : CS) : Option (Int32) :=
  if kd (x.2 0 7) = 9 then ((f_X9_countKept (x.2 0 7) x).bind fun q2 => some (q2)) else none
def f_X12_rules (x : CS) : Option (Int32) :=
  if kd (x.2 0 6) = 7 then (some (x.1 (x.2 0 6) 4)) else none
def f_X12_lessons (x : CS) : Option (Int32) :=
  if kd (x.2 0 7) = 9 then (some (x.1 (x.2 0 7) 3)) else none
def f_X12_rulesCarriedOut (x : CS) : Option (Int32) :=
  if kd (x.2 0 7) = 9 then (some (x.1 (x.2 0 7) 4)) else none
def f_X12_heardBeats (x : CS) : Option (Int32) :=
  some (x.1 14 1)
def f_X12_requireWord_15 (x : CS) : Option (Unit) :=
  none
def f_X12_requireWord (p1 : Int32) (x : CS) : Option (Unit) :=
  if p1 < 0 then (f_X12_requireWord_15 x) else (if kd (x.2 0 7) = 9 then (if p1 < (x.1 (x.2 0 7) 2) then (some (())) else (f_X12_requireWord_15 x)) else none)
def f_X12_rowOf (p1 : Int32) (x : CS) : Option (Nat) :=
  if kd (x.2 0 7) = 9 then ((f_X9_word (x.2 0 7) p1 x).bind fun q2 => if kd (q2) = 10 then (some (q2 + 1)) else none) else none
def f_X12_lengthOf (p1 : Int32) (x : CS) : Option (Int32) :=
  (f_X12_requireWord p1 x).bind fun q1 => (f_X12_rowOf p1 x).bind fun q2 => if kd (q2) = 5 then (some (x.1 q2 1)) else none
def f_X12_requireBeat_12 (x : CS) : Option (Unit) :=
  none
def f_X12_requireBeat (p1 : Nat) (p2 : Int32) (x : CS) : Option (Unit) :=
  if p2 < 0 then (f_X12_requireBeat_12 x) else (if p2 < (x.1 p1 1) then (some (())) else (f_X12_requireBeat_12 x))
def f_X12_pitchAt (p1 : Int32) (p2 : Int32) (x : CS) : Option (Int32) :=
  (f_X12_requireWord p1 x).bind fun q1 => (f_X12_rowOf p1 x).bind fun q2 => if kd (q2) = 5 then ((f_X12_requireBeat q2 p2 x).bind fun q4 => (f_X12_rowOf p1 x).bind fun q5 => if kd (q5) = 5 then ((f_X3_pitch q5 p2 x).bind fun q7 => some (q7)) else none) else none
def f_X12_contourAt (p1 : Int32) (p2 : Int32) (x : CS) : Option (Int32) :=
  (f_X12_requireWord p1 x).bind fun q1 => (f_X12_rowOf p1 x).bind fun q2 => if kd (q2) = 5 then ((f_X12_requireBeat q2 p2 x).bind fun q4 => (f_X12_rowOf p1 x).bind fun q5 => if kd (q5) = 5 then ((f_X3_contour q5 p2 x).bind fun q7 => some (q7)) else none) else none
def f_X12_isPruned (p1 : Int32) (x : CS) : Option (Int32) :=
  (f_X12_requireWord p1 x).bind fun q1 => if kd (x.2 0 7) = 9 then ((f_X9_word (x.2 0 7) p1 x).bind fun q3 => if kd (q3) = 10 then (if (x.1 q3 1) = 0 ∨ (x.1 q3 1) = 1 then (some (x.1 q3 1)) else none) else none) else none
def f_X12_silentBeats (p1 : Int32) (x : CS) : Option (Int32) :=
  (f_X12_requireWord p1 x).bind fun q1 => (f_X12_rowOf p1 x).bind fun q2 => if kd (q2) = 5 then ((f_X3_countSilent q2 x).bind fun q4 => some (q4)) else none
def f_X12_wordsApart (p1 : Int32) (p2 : Int32) (x : CS) : Option (Int32 × CS) :=
  (f_X12_rowOf p1 x).bind fun q1 => if kd (q1) = 5 then ((f_X12_rowOf p2 x).bind fun q3 => if kd (q3) = 5 then (if kd (x.2 0 6) = 7 then ((f_X10_distance q1 q3 (x.1 (x.2 0 6) 6) x).bind fun q6 => some ((q6.1, q6.2))) else none) else none) else none
def f_X12_distanceBetween (p1 : Int32) (p2 : Int32) (x : CS) : Option (Int32 × CS) :=
  (f_X12_requireWord p1 x).bind fun q1 => (f_X12_requireWord p2 x).bind fun q2 => (f_X12_wordsApart p1 p2 x).bind fun q3 => some ((q3.1, q3.2))
def f_X12_contourBetween (p1 : Int32) (p2 : Int32) (x : CS) : Option (Int32 × CS) :=
  (f_X12_requireWord p1 x).bind fun q1 => (f_X12_requireWord p2 x).bind fun q2 => (f_X12_rowOf p1 x).bind fun q3 => if kd (q3) = 5 then ((f_X12_rowOf p2 x).bind fun q5 => if kd (q5) = 5 then (if kd (x.2 0 6) = 7 then ((f_X10_contourDistance q3 q5 (x.1 (x.2 0 6) 6) x).bind fun q8 => some ((q8.1, q8.2))) else none) else none) else none
def f_X12_nearEachOther (p1 : Int32) (p2 : Int32) (x : CS) : Option (Int32 × CS) :=
  (f_X12_rowOf p1 x).bind fun q1 => if kd (q1) = 5 then ((f_X12_rowOf p2 x).bind fun q3 => if kd (q3) = 5 then (if p1 = p2 then (some (((0 : Int32), x))) else ((f_X12_wordsApart p1 p2 x).bind fun q6 => if kd (q6.2.2 0 6) = 7 then (if (((q6.2.1 (q6.2.2 0 6) 7) * (g_max (x.1 q1 1) (x.1 q3 1))) / (4 : Int32)) ≤ q6.1 then (some (((0 : Int32), q6.2))) else (some (((1 : Int32), q6.2)))) else none)) else none) else none
def f_X12_areNear (p1 : Int32) (p2 : Int32) (x : CS) : Option (Int32 × CS) :=
  (f_X12_requireWord p1 x).bind fun q1 => (f_X12_requireWord p2 x).bind fun q2 => (f_X12_nearEachOther p1 p2 x).bind fun q3 => if q3.1 = 0 ∨ q3.1 = 1 then (some ((q3.1, q3.2))) else none
def f_X12_nearestTo_33  : Nat → Int32 → Int32 → Int32 → Int32 → CS → Option (Int32 × CS)
  | 0, _, _, _, _, _ => none
  | n + 1, l1, l2, l3, l4, x => if kd (x.2 0 7) = 9 then (if (x.1 (x.2 0 7) 2) ≤ l4 then (some ((l2, x))) else (if l4 = l1 then (f_X12_nearestTo_33 n l1 l2 l3 (l4 + (1 : Int32)) x) else ((f_X12_wordsApart l1 l4 x).bind fun q7 => if l2 = (-1 : Int32) then (f_X12_nearestTo_33 n l1 l4 q7.1 (l4 + (1 : Int32)) q7.2) else (if l3 ≤ q7.1 then (f_X12_nearestTo_33 n l1 l2 l3 (l4 + (1 : Int32)) q7.2) else (f_X12_nearestTo_33 n l1 l4 q7.1 (l4 + (1 : Int32)) q7.2))))) else none
def f_X12_nearestTo (p1 : Int32) (x : CS) : Option (Int32 × CS) :=
  (f_X12_requireWord p1 x).bind fun q1 => if kd (x.2 0 7) = 9 then (if (2 : Int32) ≤ (x.1 (x.2 0 7) 2) then (f_X12_nearestTo_33 g_fuel p1 (-1 : Int32) (0 : Int32) (0 : Int32) x) else (none)) else none
def f_X12_needless_18  : Nat → Int32 → Int32 → CS → Option (Int32 × CS)
  | 0, _, _, _ => none
  | n + 1, l1, l2, x => if l1 ≤ l2 then (some (((0 : Int32), x))) else (if kd (x.2 0 7) = 9 then ((f_X9_word (x.2 0 7) l2 x).bind fun q7 => if kd (q7) = 10 then (if (x.1 q7 1) = 0 then ((f_X12_nearEachOther l2 l1 x).bind fun q10 => if q10.1 = 0 then (f_X12_needless_18 n l1 (l2 + (1 : Int32)) q10.2) else (some (((1 : Int32), q10.2)))) else (f_X12_needless_18 n l1 (l2 + (1 : Int32)) x)) else none) else none)
def f_X12_needless (p1 : Int32) (x : CS) : Option (Int32 × CS) :=
  if kd (x.2 0 7) = 9 then ((f_X9_word (x.2 0 7) p1 x).bind fun q2 => if kd (q2) = 10 then (if (x.1 q2 1) = 0 then (f_X12_needless_18 g_fuel p1 (0 : Int32) x) else (some (((0 : Int32), x)))) else none) else none
def f_X12_isNeedless (p1 : Int32) (x : CS) : Option (Int32 × CS) :=
  (f_X12_requireWord p1 x).bind fun q1 => (f_X12_needless p1 x).bind fun q2 => if q2.1 = 0 ∨ q2.1 = 1 then (some ((q2.1, q2.2))) else none
def f_X12_heardPitch (p1 : Int32) (x : CS) : Option (Int32) :=
  (f_X12_requireBeat 14 p1 x).bind fun q1 => (f_X3_pitch 14 p1 x).bind fun q2 => some (q2)
def f_X12_requireSomeHeard (x : CS) : Option (Unit) :=
  if (x.1 14 1) = 0 then (none) else (some (()))
def f_X12_distanceTo (p1 : Int32) (x : CS) : Option (Int32) :=
  (f_X12_requireWord p1 x).bind fun q1 => (f_X12_requireSomeHeard x).bind fun q2 => if kd (x.2 0 7) = 9 then ((f_X9_word (x.2 0 7) p1 x).bind fun q4 => if kd (q4) = 10 then (some (x.1 q4 2)) else none) else none
def f_X12_contourTo (p1 : Int32) (x : CS) : Option (Int32 × CS) :=
  (f_X12_requireWord p1 x).bind fun q1 => (f_X12_requireSomeHeard x).bind fun q2 => (f_X12_rowOf p1 x).bind fun q3 => if kd (q3) = 5 then (if kd (x.2 0 6) = 7 then ((f_X10_contourDistance q3 14 (x.1 (x.2 0 6) 6) x).bind fun q6 => some ((q6.1, q6.2))) else none) else none
def f_X12_stepsTo (p1 : Int32) (x : CS) : Option (Int32 × CS) :=
  (f_X12_requireWord p1 x).bind fun q1 => (f_X12_requireSomeHeard x).bind fun q2 => (f_X12_rowOf p1 x).bind fun q3 => if kd (q3) = 5 then (if kd (x.2 0 6) = 7 then ((f_X10_fewestSteps q3 14 (x.1 (x.2 0 6) 6) x).bind fun q6 => some ((q6.1, q6.2))) else none) else none
def f_X12_requireMeant (p1 : Int32) : Option (Unit) :=
  if p1 = (-1 : Int32) then (none) else (some (()))
def f_X12_meantWord (x : CS) : Option (Int32) :=
  if kd (x.2 0 7) = 9 then ((f_X1_meantOf (x.2 0 7) x).bind fun q2 => (f_X12_requireMeant q2).bind fun q3 => some (q2)) else none
def f_X12_surety (x : CS) : Option (Int32) :=
  if kd (x.2 0 7) = 9 then ((f_X1_meantOf (x.2 0 7) x).bind fun q2 => (f_X12_requireMeant q2).bind fun q3 => (f_X9_closestKept (x.2 0 7) q2 x).bind fun q4 => if q4 = (-1 : Int32) then (some ((-1 : Int32))) else ((f_X9_word (x.2 0 7) q4 x).bind fun q6 => if kd (q6) = 10 then ((f_X9_word (x.2 0 7) q2 x).bind fun q8 => if kd (q8) = 10 then (some ((x.1 q6 2) - (x.1 q8 2))) else none) else none)) else none
def f_X12_hear_10 (x : CS) : Option (Int32 × CS) :=
  none
def f_X12_hear (p1 : Int32) (x : CS) : Option (Int32 × CS) :=
  if p1 < 0 then (f_X12_hear_10 x) else (if p1 ≤ (40 : Int32) then (if (x.1 14 1) < (24 : Int32) then ((f_X3_add 14 p1 x).bind fun q4 => if kd (q4.2 0 6) = 7 then (if kd (q4.2 0 7) = 9 then ((f_X1_measureAll (q4.2 0 6) (q4.2 0 7) q4).bind fun q7 => some ((q7.1 14 1, q7))) else none) else none) else (none)) else (f_X12_hear_10 x))
def f_X12_hearWord_17 (x : CS) : Option (Int32 × CS) :=
  none
def f_X12_hearWord (p1 : Int32) (p2 : Int32) (x : CS) : Option (Int32 × CS) :=
  (f_X12_requireWord p1 x).bind fun q1 => if p2 < (-39 : Int32) then (f_X12_hearWord_17 x) else (if p2 ≤ (39 : Int32) then ((f_X12_rowOf p1 x).bind fun q4 => if kd (q4) = 5 then ((f_X3_copyFrom 14 q4 x).bind fun q6 => (f_X3_shift 14 p2 q6).bind fun q7 => if kd (q7.2.2 0 6) = 7 then (if kd (q7.2.2 0 7) = 9 then ((f_X1_measureAll (q7.2.2 0 6) (q7.2.2 0 7) q7.2).bind fun q10 => some ((q10.1 14 1, q10))) else none) else none) else none) else (f_X12_hearWord_17 x))
def f_X12_forget (x : CS) : Option (Int32 × CS) :=
  if kd ((g_wi x 14 1 (0 : Int32)).2 0 6) = 7 then (if kd ((g_wi x 14 1 (0 : Int32)).2 0 7) = 9 then ((f_X1_measureAll ((g_wi x 14 1 (0 : Int32)).2 0 6) ((g_wi x 14 1 (0 : Int32)).2 0 7) (g_wi x 14 1 (0 : Int32))).bind fun q3 => some ((x.1 14 1, q3))) else none) else none
def f_X12_turnPruned (p1 : Int32) (x : CS) : Option (Int32 × CS) :=
  (f_X12_requireWord p1 x).bind fun q1 => if kd (x.2 0 7) = 9 then ((f_X9_word (x.2 0 7) p1 x).bind fun q3 => if kd (q3) = 10 then (if (x.1 q3 1) = 0 then (if ((g_wi x q3 1 (1 : Int32)).1 q3 1) = 0 ∨ ((g_wi x q3 1 (1 : Int32)).1 q3 1) = 1 then (some (((g_wi x q3 1 (1 : Int32)).1 q3 1, g_wi x q3 1 (1 : Int32)))) else none) else (if ((g_wi x q3 1 (0 : Int32)).1 q3 1) = 0 ∨ ((g_wi x q3 1 (0 : Int32)).1 q3 1) = 1 then (some (((g_wi x q3 1 (0 : Int32)).1 q3 1, g_wi x q3 1 (0 : Int32)))) else none)) else none) else none
def f_X12_pruneNeedless_4  : Nat → Int32 → Int32 → CS → Option (Int32 × CS)
  | 0, _, _, _ => none
  | n + 1, l1, l2, x => if kd (x.2 0 7) = 9 then (if (x.1 (x.2 0 7) 2) ≤ l2 then (some ((l1, x))) else ((f_X12_needless l2 x).bind fun q3 => if q3.1 = 0 then (f_X12_pruneNeedless_4 n l1 (l2 + (1 : Int32)) q3.2) else (if kd (q3.2.2 0 7) = 9 then ((f_X9_word (q3.2.2 0 7) l2 q3.2).bind fun q6 => if kd (q6) = 10 then (f_X12_pruneNeedless_4 n (l1 + (1 : Int32)) (l2 + (1 : Int32)) (g_wi q3.2 q6 1 (1 : Int32))) else none) else none))) else none
def f_X12_pruneNeedless (x : CS) : Option (Int32 × CS) :=
  f_X12_pruneNeedless_4 g_fuel (0 : Int32) (0 : Int32) x
def f_X12_requireLessons_11  : Option (Unit) :=
  none
def f_X12_requireLessons (p1 : Int32) : Option (Unit) :=
  if p1 < (1 : Int32) then (f_X12_requireLessons_11) else (if p1 ≤ (20 : Int32) then (some (())) else (f_X12_requireLessons_11))
def f_X12_passLessons_8  : Nat → Int32 → Int32 → Int32 → CS → Option (Int32 × CS)
  | 0, _, _, _, _ => none
  | n + 1, l1, l2, l3, x => if l1 ≤ l3 then (some ((l2, x))) else (if kd (x.2 0 6) = 7 then (if kd (x.2 0 7) = 9 then ((f_X1_passOne (x.2 0 6) (x.2 0 7) x).bind fun q5 => f_X12_passLessons_8 n l1 (l2 + q5.1) (l3 + (1 : Int32)) q5.2) else none) else none)
def f_X12_passLessons (p1 : Int32) (x : CS) : Option (Int32 × CS) :=
  (f_X12_requireLessons p1).bind fun q1 => f_X12_passLessons_8 g_fuel p1 (0 : Int32) (0 : Int32) x
def f_X12_keptAfter_17  : Nat → Int32 → Int32 → CS → Option (Int32 × CS)
  | 0, _, _, _ => none
  | n + 1, l1, l2, x => if l1 ≤ l2 then (if kd (x.2 0 9) = 9 then ((f_X9_countKept (x.2 0 9) x).bind fun q7 => some ((q7, x))) else none) else (if kd (x.2 0 6) = 7 then (if kd (x.2 0 9) = 9 then ((f_X1_passOne (x.2 0 6) (x.2 0 9) x).bind fun q10 => f_X12_keptAfter_17 n l1 (l2 + (1 : Int32)) q10.2) else none) else none)
def f_X12_keptAfter (p1 : Int32) (x : CS) : Option (Int32 × CS) :=
  (f_X12_requireLessons p1).bind fun q1 => if kd (x.2 0 9) = 9 then (if kd (x.2 0 7) = 9 then ((f_X9_copyFrom (x.2 0 9) (x.2 0 7) x).bind fun q4 => f_X12_keptAfter_17 g_fuel p1 (0 : Int32) q4) else none) else none
def f_X12_lessonsUntilMeant_18  : Nat → Int32 → Int32 → CS → Option (Int32 × CS)
  | 0, _, _, _ => none
  | n + 1, l1, l2, x => if (20 : Int32) < l2 then (some (((-1 : Int32), x))) else (if kd (x.2 0 9) = 9 then ((f_X1_meantOf (x.2 0 9) x).bind fun q7 => if q7 = l1 then (some ((l2, x))) else (if kd (x.2 0 6) = 7 then ((f_X1_passOne (x.2 0 6) (x.2 0 9) x).bind fun q10 => f_X12_lessonsUntilMeant_18 n l1 (l2 + (1 : Int32)) q10.2) else none)) else none)
def f_X12_lessonsUntilMeant (p1 : Int32) (x : CS) : Option (Int32 × CS) :=
  (f_X12_requireWord p1 x).bind fun q1 => if kd (x.2 0 9) = 9 then (if kd (x.2 0 7) = 9 then ((f_X9_copyFrom (x.2 0 9) (x.2 0 7) x).bind fun q4 => f_X12_lessonsUntilMeant_18 g_fuel p1 (0 : Int32) q4) else none) else none
def f_X12_distanceIfShifted (p1 : Int32) (p2 : Int32) (x : CS) : Option (Int32 × CS) :=
  (f_X3_copyFrom 16 14 x).bind fun q1 => (f_X3_shift 16 p2 q1).bind fun q2 => (f_X12_rowOf p1 q2.2).bind fun q3 => if kd (q3) = 5 then (if kd (q2.2.2 0 6) = 7 then ((f_X10_distance q3 16 (q2.2.1 (q2.2.2 0 6) 6) q2.2).bind fun q6 => some ((q6.1, q6.2))) else none) else none
def f_X12_bestShift_49 (k21 : Int32 → Int32 → Int32 → Int32 → CS → Option (Int32 × CS)) (l1 : Int32) (l2 : Int32) (l3 : Int32) (l4 : Int32) (x : CS) : Option (Int32 × CS) :=
  (f_X12_distanceIfShifted l1 (-l4) x).bind fun q7 => if l3 ≤ q7.1 then (k21 l1 l2 l3 (l4 + (1 : Int32)) q7.2) else (k21 l1 (-l4) q7.1 (l4 + (1 : Int32)) q7.2)
def f_X12_bestShift_21  : Nat → Int32 → Int32 → Int32 → Int32 → CS → Option (Int32 × CS)
  | 0, _, _, _, _, _ => none
  | n + 1, l1, l2, l3, l4, x => if (39 : Int32) < l4 then (some ((l2, x))) else ((f_X12_distanceIfShifted l1 l4 x).bind fun q5 => if l3 ≤ q5.1 then (f_X12_bestShift_49 (f_X12_bestShift_21 n) l1 l2 l3 l4 q5.2) else (f_X12_bestShift_49 (f_X12_bestShift_21 n) l1 l4 q5.1 l4 q5.2))
def f_X12_bestShift (p1 : Int32) (x : CS) : Option (Int32 × CS) :=
  (f_X12_requireWord p1 x).bind fun q1 => (f_X12_requireSomeHeard x).bind fun q2 => (f_X12_distanceIfShifted p1 (0 : Int32) x).bind fun q3 => f_X12_bestShift_21 g_fuel p1 (0 : Int32) q3.1 (1 : Int32) q3.2
def f_X12_meanLength_16 (x : CS) : Nat → Int32 → Int32 → Option (UInt64)
  | 0, _, _ => none
  | n + 1, l1, l2 => if kd (x.2 0 7) = 9 then (if (x.1 (x.2 0 7) 2) ≤ l2 then (if g_nan (FP.ddiv (FP.i2d l1) (FP.i2d (x.1 (x.2 0 7) 2))) = false then (some (FP.ddiv (FP.i2d l1) (FP.i2d (x.1 (x.2 0 7) 2)))) else none) else ((f_X12_rowOf l2 x).bind fun q6 => if kd (q6) = 5 then (f_X12_meanLength_16 x n (l1 + (x.1 q6 1)) (l2 + (1 : Int32))) else none)) else none
def f_X12_meanLength (x : CS) : Option (UInt64) :=
  if kd (x.2 0 7) = 9 then (if (x.1 (x.2 0 7) 2) = 0 then (some (FP.dconst0)) else (f_X12_meanLength_16 x g_fuel (0 : Int32) (0 : Int32))) else none
def f_X12_digestOfRow_5 (x : CS) : Nat → Nat → Int64 → Int32 → Option (Int64)
  | 0, _, _, _ => none
  | n + 1, l2, l3, l5 => if (x.1 l2 1) ≤ l5 then (some (l3)) else ((f_X3_pitch l2 l5 x).bind fun q2 => f_X12_digestOfRow_5 x n l2 ((l3 * (31 : Int64)) + q2.toInt64) (l5 + (1 : Int32)))
def f_X12_digestOfRow (p1 : Int64) (p2 : Nat) (x : CS) : Option (Int64) :=
  f_X12_digestOfRow_5 x g_fuel p2 p1 (0 : Int32)
def f_X12_digestOfWord_88  : Nat → Int32 → Int64 → Int32 → CS → Option (Int64 × CS)
  | 0, _, _, _, _ => none
  | n + 1, l3, l4, l6, x => if kd (x.2 0 7) = 9 then (if (x.1 (x.2 0 7) 2) ≤ l6 then (some ((l4, x))) else ((f_X12_wordsApart l3 l6 x).bind fun q14 => f_X12_digestOfWord_88 n l3 ((l4 * (31 : Int64)) + q14.1.toInt64) (l6 + (1 : Int32)) q14.2)) else none
def f_X12_digestOfWord_69 (l3 : Int32) (s0 : Int32) (s1 : Int64) (x : CS) : Option (Int64 × CS) :=
  (f_X12_rowOf l3 x).bind fun q9 => if kd (q9) = 5 then ((f_X12_digestOfRow (s1 + s0.toInt64) q9 x).bind fun q11 => f_X12_digestOfWord_88 g_fuel l3 q11 (0 : Int32) x) else none
def f_X12_digestOfWord_46 (l3 : Int32) (s0 : Int32) (s1 : Int64) (x : CS) : Option (Int64 × CS) :=
  (f_X12_needless l3 x).bind fun q7 => if q7.1 = 0 then (f_X12_digestOfWord_69 l3 (0 : Int32) ((s1 + s0.toInt64) * (31 : Int64)) q7.2) else (f_X12_digestOfWord_69 l3 (1 : Int32) ((s1 + s0.toInt64) * (31 : Int64)) q7.2)
def f_X12_digestOfWord (p1 : Int64) (p2 : Int32) (x : CS) : Option (Int64 × CS) :=
  (f_X12_rowOf p2 x).bind fun q1 => if kd (q1) = 5 then (if kd (x.2 0 7) = 9 then ((f_X9_word (x.2 0 7) p2 x).bind fun q4 => if kd (q4) = 10 then (if (x.1 q4 1) = 0 then (f_X12_digestOfWord_46 p2 (0 : Int32) (((p1 * (31 : Int64)) + ((x.1 q1 1).toInt64)) * (31 : Int64)) x) else (f_X12_digestOfWord_46 p2 (1 : Int32) (((p1 * (31 : Int64)) + ((x.1 q1 1).toInt64)) * (31 : Int64)) x)) else none) else none) else none
def f_X12_digest_115  : Nat → Int64 → Int32 → CS → Option (Int64 × CS)
  | 0, _, _, _ => none
  | n + 1, l1, l3, x => if kd (x.2 0 7) = 9 then (if (x.1 (x.2 0 7) 2) ≤ l3 then ((f_X12_digestOfRow l1 14 x).bind fun q7 => some ((q7, x))) else ((f_X12_digestOfWord l1 l3 x).bind fun q8 => f_X12_digest_115 n q8.1 (l3 + (1 : Int32)) q8.2)) else none
def f_X12_digest (x : CS) : Option (Int64 × CS) :=
  if kd (x.2 0 7) = 9 then ((f_X9_countKept (x.2 0 7) x).bind fun q2 => if kd (x.2 0 6) = 7 then ((f_X1_meantOf (x.2 0 7) x).bind fun q4 => f_X12_digest_115 g_fuel (((((((((((((((1019 : Int64) * (31 : Int64)) + ((x.1 (x.2 0 7) 2).toInt64)) * (31 : Int64)) + q2.toInt64) * (31 : Int64)) + ((x.1 (x.2 0 6) 4).toInt64)) * (31 : Int64)) + ((x.1 (x.2 0 7) 3).toInt64)) * (31 : Int64)) + ((x.1 (x.2 0 7) 4).toInt64)) * (31 : Int64)) + ((x.1 14 1).toInt64)) * (31 : Int64)) + q4.toInt64) (0 : Int32) x) else none) else none
def f_X12_beginAnew (x : CS) : Option (CS) :=
  if kd (x.2 0 6) = 7 then (if kd (x.2 0 8) = 7 then (if kd ((g_wr (g_wr x 0 6 (x.2 0 8)) 0 8 (x.2 0 6)).2 0 7) = 9 then (if kd ((g_wr (g_wr x 0 6 (x.2 0 8)) 0 8 (x.2 0 6)).2 0 9) = 9 then (some (g_wi (g_wr (g_wr (g_wr (g_wr x 0 6 (x.2 0 8)) 0 8 (x.2 0 6)) 0 7 ((g_wr (g_wr x 0 6 (x.2 0 8)) 0 8 (x.2 0 6)).2 0 9)) 0 9 ((g_wr (g_wr x 0 6 (x.2 0 8)) 0 8 (x.2 0 6)).2 0 7)) 14 1 (0 : Int32))) else none) else none) else none) else none
theorem md_X1_init : yX1_init.cls ≠ "java/lang/invoke/MethodHandle" ∧ yX1_init.cls ≠ "java/lang/invoke/VarHandle" ∧ (parseMethodDescriptor yX1_init.desc).map (fun d => d.parameters.length) = some 2 := by decide +kernel
theorem md_X1_meantOf : yX1_meantOf.cls ≠ "java/lang/invoke/MethodHandle" ∧ yX1_meantOf.cls ≠ "java/lang/invoke/VarHandle" ∧ (parseMethodDescriptor yX1_meantOf.desc).map (fun d => d.parameters.length) = some 1 := by decide +kernel
theorem md_X1_measureAll : yX1_measureAll.cls ≠ "java/lang/invoke/MethodHandle" ∧ yX1_measureAll.cls ≠ "java/lang/invoke/VarHandle" ∧ (parseMethodDescriptor yX1_measureAll.desc).map (fun d => d.parameters.length) = some 2 := by decide +kernel
theorem md_X1_measure : yX1_measure.cls ≠ "java/lang/invoke/MethodHandle" ∧ yX1_measure.cls ≠ "java/lang/invoke/VarHandle" ∧ (parseMethodDescriptor yX1_measure.desc).map (fun d => d.parameters.length) = some 2 := by decide +kernel
theorem md_X1_passOne : yX1_passOne.cls ≠ "java/lang/invoke/MethodHandle" ∧ yX1_passOne.cls ≠ "java/lang/invoke/VarHandle" ∧ (parseMethodDescriptor yX1_passOne.desc).map (fun d => d.parameters.length) = some 2 := by decide +kernel
theorem md_X1_holds : yX1_holds.cls ≠ "java/lang/invoke/MethodHandle" ∧ yX1_holds.cls ≠ "java/lang/invoke/VarHandle" ∧ (parseMethodDescriptor yX1_holds.desc).map (fun d => d.parameters.length) = some 3 := by decide +kernel
theorem md_X1_changes : yX1_changes.cls ≠ "java/lang/invoke/MethodHandle" ∧ yX1_changes.cls ≠ "java/lang/invoke/VarHandle" ∧ (parseMethodDescriptor yX1_changes.desc).map (fun d => d.parameters.length) = some 3 := by decide +kernel
theorem md_X1_reckon : yX1_reckon.cls ≠ "java/lang/invoke/MethodHandle" ∧ yX1_reckon.cls ≠ "java/lang/invoke/VarHandle" ∧ (parseMethodDescriptor yX1_reckon.desc).map (fun d => d.parameters.length) = some 4 := by decide +kernel
theorem md_X1_push : yX1_push.cls ≠ "java/lang/invoke/MethodHandle" ∧ yX1_push.cls ≠ "java/lang/invoke/VarHandle" ∧ (parseMethodDescriptor yX1_push.desc).map (fun d => d.parameters.length) = some 1 := by decide +kernel
theorem md_X1_pop : yX1_pop.cls ≠ "java/lang/invoke/MethodHandle" ∧ yX1_pop.cls ≠ "java/lang/invoke/VarHandle" ∧ (parseMethodDescriptor yX1_pop.desc).map (fun d => d.parameters.length) = some 0 := by decide +kernel
theorem md_X1_found : yX1_found.cls ≠ "java/lang/invoke/MethodHandle" ∧ yX1_found.cls ≠ "java/lang/invoke/VarHandle" ∧ (parseMethodDescriptor yX1_found.desc).map (fun d => d.parameters.length) = some 3 := by decide +kernel
theorem md_X1_isJoin : yX1_isJoin.cls ≠ "java/lang/invoke/MethodHandle" ∧ yX1_isJoin.cls ≠ "java/lang/invoke/VarHandle" ∧ (parseMethodDescriptor yX1_isJoin.desc).map (fun d => d.parameters.length) = some 1 := by decide +kernel
theorem md_X1_join : yX1_join.cls ≠ "java/lang/invoke/MethodHandle" ∧ yX1_join.cls ≠ "java/lang/invoke/VarHandle" ∧ (parseMethodDescriptor yX1_join.desc).map (fun d => d.parameters.length) = some 3 := by decide +kernel
theorem md_X1_compares : yX1_compares.cls ≠ "java/lang/invoke/MethodHandle" ∧ yX1_compares.cls ≠ "java/lang/invoke/VarHandle" ∧ (parseMethodDescriptor yX1_compares.desc).map (fun d => d.parameters.length) = some 3 := by decide +kernel
theorem md_X2_init : yX2_init.cls ≠ "java/lang/invoke/MethodHandle" ∧ yX2_init.cls ≠ "java/lang/invoke/VarHandle" ∧ (parseMethodDescriptor yX2_init.desc).map (fun d => d.parameters.length) = some 3 := by decide +kernel
theorem md_X2_readLanguage : yX2_readLanguage.cls ≠ "java/lang/invoke/MethodHandle" ∧ yX2_readLanguage.cls ≠ "java/lang/invoke/VarHandle" ∧ (parseMethodDescriptor yX2_readLanguage.desc).map (fun d => d.parameters.length) = some 0 := by decide +kernel
theorem md_X2_step : yX2_step.cls ≠ "java/lang/invoke/MethodHandle" ∧ yX2_step.cls ≠ "java/lang/invoke/VarHandle" ∧ (parseMethodDescriptor yX2_step.desc).map (fun d => d.parameters.length) = some 0 := by decide +kernel
theorem md_X2_expect : yX2_expect.cls ≠ "java/lang/invoke/MethodHandle" ∧ yX2_expect.cls ≠ "java/lang/invoke/VarHandle" ∧ (parseMethodDescriptor yX2_expect.desc).map (fun d => d.parameters.length) = some 1 := by decide +kernel
theorem md_X2_refuse : yX2_refuse.cls ≠ "java/lang/invoke/MethodHandle" ∧ yX2_refuse.cls ≠ "java/lang/invoke/VarHandle" ∧ (parseMethodDescriptor yX2_refuse.desc).map (fun d => d.parameters.length) = some 0 := by decide +kernel
theorem md_X2_blame : yX2_blame.cls ≠ "java/lang/invoke/MethodHandle" ∧ yX2_blame.cls ≠ "java/lang/invoke/VarHandle" ∧ (parseMethodDescriptor yX2_blame.desc).map (fun d => d.parameters.length) = some 1 := by decide +kernel
theorem md_X2_readWord : yX2_readWord.cls ≠ "java/lang/invoke/MethodHandle" ∧ yX2_readWord.cls ≠ "java/lang/invoke/VarHandle" ∧ (parseMethodDescriptor yX2_readWord.desc).map (fun d => d.parameters.length) = some 0 := by decide +kernel
theorem md_X2_readNewName : yX2_readNewName.cls ≠ "java/lang/invoke/MethodHandle" ∧ yX2_readNewName.cls ≠ "java/lang/invoke/VarHandle" ∧ (parseMethodDescriptor yX2_readNewName.desc).map (fun d => d.parameters.length) = some 0 := by decide +kernel
theorem md_X2_readKnownName : yX2_readKnownName.cls ≠ "java/lang/invoke/MethodHandle" ∧ yX2_readKnownName.cls ≠ "java/lang/invoke/VarHandle" ∧ (parseMethodDescriptor yX2_readKnownName.desc).map (fun d => d.parameters.length) = some 0 := by decide +kernel
theorem md_X2_wordCalled : yX2_wordCalled.cls ≠ "java/lang/invoke/MethodHandle" ∧ yX2_wordCalled.cls ≠ "java/lang/invoke/VarHandle" ∧ (parseMethodDescriptor yX2_wordCalled.desc).map (fun d => d.parameters.length) = some 1 := by decide +kernel
theorem md_X2_readPart : yX2_readPart.cls ≠ "java/lang/invoke/MethodHandle" ∧ yX2_readPart.cls ≠ "java/lang/invoke/VarHandle" ∧ (parseMethodDescriptor yX2_readPart.desc).map (fun d => d.parameters.length) = some 0 := by decide +kernel
theorem md_X2_readNumber : yX2_readNumber.cls ≠ "java/lang/invoke/MethodHandle" ∧ yX2_readNumber.cls ≠ "java/lang/invoke/VarHandle" ∧ (parseMethodDescriptor yX2_readNumber.desc).map (fun d => d.parameters.length) = some 2 := by decide +kernel
theorem md_X2_readRule : yX2_readRule.cls ≠ "java/lang/invoke/MethodHandle" ∧ yX2_readRule.cls ≠ "java/lang/invoke/VarHandle" ∧ (parseMethodDescriptor yX2_readRule.desc).map (fun d => d.parameters.length) = some 0 := by decide +kernel
theorem md_X2_requireDepth : yX2_requireDepth.cls ≠ "java/lang/invoke/MethodHandle" ∧ yX2_requireDepth.cls ≠ "java/lang/invoke/VarHandle" ∧ (parseMethodDescriptor yX2_requireDepth.desc).map (fun d => d.parameters.length) = some 1 := by decide +kernel
theorem md_X2_readTest : yX2_readTest.cls ≠ "java/lang/invoke/MethodHandle" ∧ yX2_readTest.cls ≠ "java/lang/invoke/VarHandle" ∧ (parseMethodDescriptor yX2_readTest.desc).map (fun d => d.parameters.length) = some 1 := by decide +kernel
theorem md_X2_readBoth : yX2_readBoth.cls ≠ "java/lang/invoke/MethodHandle" ∧ yX2_readBoth.cls ≠ "java/lang/invoke/VarHandle" ∧ (parseMethodDescriptor yX2_readBoth.desc).map (fun d => d.parameters.length) = some 1 := by decide +kernel
theorem md_X2_readSingle : yX2_readSingle.cls ≠ "java/lang/invoke/MethodHandle" ∧ yX2_readSingle.cls ≠ "java/lang/invoke/VarHandle" ∧ (parseMethodDescriptor yX2_readSingle.desc).map (fun d => d.parameters.length) = some 1 := by decide +kernel
theorem md_X2_isComparison : yX2_isComparison.cls ≠ "java/lang/invoke/MethodHandle" ∧ yX2_isComparison.cls ≠ "java/lang/invoke/VarHandle" ∧ (parseMethodDescriptor yX2_isComparison.desc).map (fun d => d.parameters.length) = some 0 := by decide +kernel
theorem md_X2_readSum : yX2_readSum.cls ≠ "java/lang/invoke/MethodHandle" ∧ yX2_readSum.cls ≠ "java/lang/invoke/VarHandle" ∧ (parseMethodDescriptor yX2_readSum.desc).map (fun d => d.parameters.length) = some 1 := by decide +kernel
theorem md_X2_readProduct : yX2_readProduct.cls ≠ "java/lang/invoke/MethodHandle" ∧ yX2_readProduct.cls ≠ "java/lang/invoke/VarHandle" ∧ (parseMethodDescriptor yX2_readProduct.desc).map (fun d => d.parameters.length) = some 1 := by decide +kernel
theorem md_X2_readValue : yX2_readValue.cls ≠ "java/lang/invoke/MethodHandle" ∧ yX2_readValue.cls ≠ "java/lang/invoke/VarHandle" ∧ (parseMethodDescriptor yX2_readValue.desc).map (fun d => d.parameters.length) = some 1 := by decide +kernel
theorem md_X2_readChoice : yX2_readChoice.cls ≠ "java/lang/invoke/MethodHandle" ∧ yX2_readChoice.cls ≠ "java/lang/invoke/VarHandle" ∧ (parseMethodDescriptor yX2_readChoice.desc).map (fun d => d.parameters.length) = some 1 := by decide +kernel
theorem md_X3_init : yX3_init.cls ≠ "java/lang/invoke/MethodHandle" ∧ yX3_init.cls ≠ "java/lang/invoke/VarHandle" ∧ (parseMethodDescriptor yX3_init.desc).map (fun d => d.parameters.length) = some 0 := by decide +kernel
theorem md_X3_pitch : yX3_pitch.cls ≠ "java/lang/invoke/MethodHandle" ∧ yX3_pitch.cls ≠ "java/lang/invoke/VarHandle" ∧ (parseMethodDescriptor yX3_pitch.desc).map (fun d => d.parameters.length) = some 1 := by decide +kernel
theorem md_X3_contour : yX3_contour.cls ≠ "java/lang/invoke/MethodHandle" ∧ yX3_contour.cls ≠ "java/lang/invoke/VarHandle" ∧ (parseMethodDescriptor yX3_contour.desc).map (fun d => d.parameters.length) = some 1 := by decide +kernel
theorem md_X3_countSilent : yX3_countSilent.cls ≠ "java/lang/invoke/MethodHandle" ∧ yX3_countSilent.cls ≠ "java/lang/invoke/VarHandle" ∧ (parseMethodDescriptor yX3_countSilent.desc).map (fun d => d.parameters.length) = some 0 := by decide +kernel
theorem md_X3_add : yX3_add.cls ≠ "java/lang/invoke/MethodHandle" ∧ yX3_add.cls ≠ "java/lang/invoke/VarHandle" ∧ (parseMethodDescriptor yX3_add.desc).map (fun d => d.parameters.length) = some 1 := by decide +kernel
theorem md_X3_addGlide : yX3_addGlide.cls ≠ "java/lang/invoke/MethodHandle" ∧ yX3_addGlide.cls ≠ "java/lang/invoke/VarHandle" ∧ (parseMethodDescriptor yX3_addGlide.desc).map (fun d => d.parameters.length) = some 3 := by decide +kernel
theorem md_X3_copyFrom : yX3_copyFrom.cls ≠ "java/lang/invoke/MethodHandle" ∧ yX3_copyFrom.cls ≠ "java/lang/invoke/VarHandle" ∧ (parseMethodDescriptor yX3_copyFrom.desc).map (fun d => d.parameters.length) = some 1 := by decide +kernel
theorem md_X3_traceContour : yX3_traceContour.cls ≠ "java/lang/invoke/MethodHandle" ∧ yX3_traceContour.cls ≠ "java/lang/invoke/VarHandle" ∧ (parseMethodDescriptor yX3_traceContour.desc).map (fun d => d.parameters.length) = some 1 := by decide +kernel
theorem md_X3_shift : yX3_shift.cls ≠ "java/lang/invoke/MethodHandle" ∧ yX3_shift.cls ≠ "java/lang/invoke/VarHandle" ∧ (parseMethodDescriptor yX3_shift.desc).map (fun d => d.parameters.length) = some 1 := by decide +kernel
theorem md_X4_init : yX4_init.cls ≠ "java/lang/invoke/MethodHandle" ∧ yX4_init.cls ≠ "java/lang/invoke/VarHandle" ∧ (parseMethodDescriptor yX4_init.desc).map (fun d => d.parameters.length) = some 0 := by decide +kernel
theorem md_X5_init : yX5_init.cls ≠ "java/lang/invoke/MethodHandle" ∧ yX5_init.cls ≠ "java/lang/invoke/VarHandle" ∧ (parseMethodDescriptor yX5_init.desc).map (fun d => d.parameters.length) = some 0 := by decide +kernel
theorem md_X5_rule : yX5_rule.cls ≠ "java/lang/invoke/MethodHandle" ∧ yX5_rule.cls ≠ "java/lang/invoke/VarHandle" ∧ (parseMethodDescriptor yX5_rule.desc).map (fun d => d.parameters.length) = some 1 := by decide +kernel
theorem md_X5_sign : yX5_sign.cls ≠ "java/lang/invoke/MethodHandle" ∧ yX5_sign.cls ≠ "java/lang/invoke/VarHandle" ∧ (parseMethodDescriptor yX5_sign.desc).map (fun d => d.parameters.length) = some 1 := by decide +kernel
theorem md_X5_value : yX5_value.cls ≠ "java/lang/invoke/MethodHandle" ∧ yX5_value.cls ≠ "java/lang/invoke/VarHandle" ∧ (parseMethodDescriptor yX5_value.desc).map (fun d => d.parameters.length) = some 1 := by decide +kernel
theorem md_X5_clear : yX5_clear.cls ≠ "java/lang/invoke/MethodHandle" ∧ yX5_clear.cls ≠ "java/lang/invoke/VarHandle" ∧ (parseMethodDescriptor yX5_clear.desc).map (fun d => d.parameters.length) = some 0 := by decide +kernel
theorem md_X5_addSign : yX5_addSign.cls ≠ "java/lang/invoke/MethodHandle" ∧ yX5_addSign.cls ≠ "java/lang/invoke/VarHandle" ∧ (parseMethodDescriptor yX5_addSign.desc).map (fun d => d.parameters.length) = some 2 := by decide +kernel
theorem md_X5_addRule : yX5_addRule.cls ≠ "java/lang/invoke/MethodHandle" ∧ yX5_addRule.cls ≠ "java/lang/invoke/VarHandle" ∧ (parseMethodDescriptor yX5_addRule.desc).map (fun d => d.parameters.length) = some 4 := by decide +kernel
theorem md_X7_init : yX7_init.cls ≠ "java/lang/invoke/MethodHandle" ∧ yX7_init.cls ≠ "java/lang/invoke/VarHandle" ∧ (parseMethodDescriptor yX7_init.desc).map (fun d => d.parameters.length) = some 0 := by decide +kernel
theorem md_X7_append : yX7_append.cls ≠ "java/lang/invoke/MethodHandle" ∧ yX7_append.cls ≠ "java/lang/invoke/VarHandle" ∧ (parseMethodDescriptor yX7_append.desc).map (fun d => d.parameters.length) = some 1 := by decide +kernel
theorem md_X7_byteAt : yX7_byteAt.cls ≠ "java/lang/invoke/MethodHandle" ∧ yX7_byteAt.cls ≠ "java/lang/invoke/VarHandle" ∧ (parseMethodDescriptor yX7_byteAt.desc).map (fun d => d.parameters.length) = some 1 := by decide +kernel
theorem md_X7_isLetter : yX7_isLetter.cls ≠ "java/lang/invoke/MethodHandle" ∧ yX7_isLetter.cls ≠ "java/lang/invoke/VarHandle" ∧ (parseMethodDescriptor yX7_isLetter.desc).map (fun d => d.parameters.length) = some 1 := by decide +kernel
theorem md_X7_isDigit : yX7_isDigit.cls ≠ "java/lang/invoke/MethodHandle" ∧ yX7_isDigit.cls ≠ "java/lang/invoke/VarHandle" ∧ (parseMethodDescriptor yX7_isDigit.desc).map (fun d => d.parameters.length) = some 1 := by decide +kernel
theorem md_X7_behindBlanks : yX7_behindBlanks.cls ≠ "java/lang/invoke/MethodHandle" ∧ yX7_behindBlanks.cls ≠ "java/lang/invoke/VarHandle" ∧ (parseMethodDescriptor yX7_behindBlanks.desc).map (fun d => d.parameters.length) = some 1 := by decide +kernel
theorem md_X7_spells : yX7_spells.cls ≠ "java/lang/invoke/MethodHandle" ∧ yX7_spells.cls ≠ "java/lang/invoke/VarHandle" ∧ (parseMethodDescriptor yX7_spells.desc).map (fun d => d.parameters.length) = some 2 := by decide +kernel
theorem md_X7_alike : yX7_alike.cls ≠ "java/lang/invoke/MethodHandle" ∧ yX7_alike.cls ≠ "java/lang/invoke/VarHandle" ∧ (parseMethodDescriptor yX7_alike.desc).map (fun d => d.parameters.length) = some 3 := by decide +kernel
theorem md_X8_init : yX8_init.cls ≠ "java/lang/invoke/MethodHandle" ∧ yX8_init.cls ≠ "java/lang/invoke/VarHandle" ∧ (parseMethodDescriptor yX8_init.desc).map (fun d => d.parameters.length) = some 1 := by decide +kernel
theorem md_X8_sign : yX8_sign.cls ≠ "java/lang/invoke/MethodHandle" ∧ yX8_sign.cls ≠ "java/lang/invoke/VarHandle" ∧ (parseMethodDescriptor yX8_sign.desc).map (fun d => d.parameters.length) = some 1 := by decide +kernel
theorem md_X8_place : yX8_place.cls ≠ "java/lang/invoke/MethodHandle" ∧ yX8_place.cls ≠ "java/lang/invoke/VarHandle" ∧ (parseMethodDescriptor yX8_place.desc).map (fun d => d.parameters.length) = some 1 := by decide +kernel
theorem md_X8_size : yX8_size.cls ≠ "java/lang/invoke/MethodHandle" ∧ yX8_size.cls ≠ "java/lang/invoke/VarHandle" ∧ (parseMethodDescriptor yX8_size.desc).map (fun d => d.parameters.length) = some 1 := by decide +kernel
theorem md_X8_value : yX8_value.cls ≠ "java/lang/invoke/MethodHandle" ∧ yX8_value.cls ≠ "java/lang/invoke/VarHandle" ∧ (parseMethodDescriptor yX8_value.desc).map (fun d => d.parameters.length) = some 1 := by decide +kernel
theorem md_X8_readTape : yX8_readTape.cls ≠ "java/lang/invoke/MethodHandle" ∧ yX8_readTape.cls ≠ "java/lang/invoke/VarHandle" ∧ (parseMethodDescriptor yX8_readTape.desc).map (fun d => d.parameters.length) = some 0 := by decide +kernel
theorem md_X8_readToken : yX8_readToken.cls ≠ "java/lang/invoke/MethodHandle" ∧ yX8_readToken.cls ≠ "java/lang/invoke/VarHandle" ∧ (parseMethodDescriptor yX8_readToken.desc).map (fun d => d.parameters.length) = some 1 := by decide +kernel
theorem md_X8_add : yX8_add.cls ≠ "java/lang/invoke/MethodHandle" ∧ yX8_add.cls ≠ "java/lang/invoke/VarHandle" ∧ (parseMethodDescriptor yX8_add.desc).map (fun d => d.parameters.length) = some 4 := by decide +kernel
theorem md_X8_readWord : yX8_readWord.cls ≠ "java/lang/invoke/MethodHandle" ∧ yX8_readWord.cls ≠ "java/lang/invoke/VarHandle" ∧ (parseMethodDescriptor yX8_readWord.desc).map (fun d => d.parameters.length) = some 1 := by decide +kernel
theorem md_X8_readNumber : yX8_readNumber.cls ≠ "java/lang/invoke/MethodHandle" ∧ yX8_readNumber.cls ≠ "java/lang/invoke/VarHandle" ∧ (parseMethodDescriptor yX8_readNumber.desc).map (fun d => d.parameters.length) = some 1 := by decide +kernel
theorem md_X8_readSymbol : yX8_readSymbol.cls ≠ "java/lang/invoke/MethodHandle" ∧ yX8_readSymbol.cls ≠ "java/lang/invoke/VarHandle" ∧ (parseMethodDescriptor yX8_readSymbol.desc).map (fun d => d.parameters.length) = some 1 := by decide +kernel
theorem md_X8_longestSpelled : yX8_longestSpelled.cls ≠ "java/lang/invoke/MethodHandle" ∧ yX8_longestSpelled.cls ≠ "java/lang/invoke/VarHandle" ∧ (parseMethodDescriptor yX8_longestSpelled.desc).map (fun d => d.parameters.length) = some 1 := by decide +kernel
theorem md_X8_firstAlike : yX8_firstAlike.cls ≠ "java/lang/invoke/MethodHandle" ∧ yX8_firstAlike.cls ≠ "java/lang/invoke/VarHandle" ∧ (parseMethodDescriptor yX8_firstAlike.desc).map (fun d => d.parameters.length) = some 2 := by decide +kernel
theorem md_X9_init : yX9_init.cls ≠ "java/lang/invoke/MethodHandle" ∧ yX9_init.cls ≠ "java/lang/invoke/VarHandle" ∧ (parseMethodDescriptor yX9_init.desc).map (fun d => d.parameters.length) = some 0 := by decide +kernel
theorem md_X9_word : yX9_word.cls ≠ "java/lang/invoke/MethodHandle" ∧ yX9_word.cls ≠ "java/lang/invoke/VarHandle" ∧ (parseMethodDescriptor yX9_word.desc).map (fun d => d.parameters.length) = some 1 := by decide +kernel
theorem md_X9_clear : yX9_clear.cls ≠ "java/lang/invoke/MethodHandle" ∧ yX9_clear.cls ≠ "java/lang/invoke/VarHandle" ∧ (parseMethodDescriptor yX9_clear.desc).map (fun d => d.parameters.length) = some 0 := by decide +kernel
theorem md_X9_addWord : yX9_addWord.cls ≠ "java/lang/invoke/MethodHandle" ∧ yX9_addWord.cls ≠ "java/lang/invoke/VarHandle" ∧ (parseMethodDescriptor yX9_addWord.desc).map (fun d => d.parameters.length) = some 0 := by decide +kernel
theorem md_X9_copyFrom : yX9_copyFrom.cls ≠ "java/lang/invoke/MethodHandle" ∧ yX9_copyFrom.cls ≠ "java/lang/invoke/VarHandle" ∧ (parseMethodDescriptor yX9_copyFrom.desc).map (fun d => d.parameters.length) = some 1 := by decide +kernel
theorem md_X9_countKept : yX9_countKept.cls ≠ "java/lang/invoke/MethodHandle" ∧ yX9_countKept.cls ≠ "java/lang/invoke/VarHandle" ∧ (parseMethodDescriptor yX9_countKept.desc).map (fun d => d.parameters.length) = some 0 := by decide +kernel
theorem md_X9_closestKept : yX9_closestKept.cls ≠ "java/lang/invoke/MethodHandle" ∧ yX9_closestKept.cls ≠ "java/lang/invoke/VarHandle" ∧ (parseMethodDescriptor yX9_closestKept.desc).map (fun d => d.parameters.length) = some 1 := by decide +kernel
theorem md_X10_init : yX10_init.cls ≠ "java/lang/invoke/MethodHandle" ∧ yX10_init.cls ≠ "java/lang/invoke/VarHandle" ∧ (parseMethodDescriptor yX10_init.desc).map (fun d => d.parameters.length) = some 0 := by decide +kernel
theorem md_X10_distance : yX10_distance.cls ≠ "java/lang/invoke/MethodHandle" ∧ yX10_distance.cls ≠ "java/lang/invoke/VarHandle" ∧ (parseMethodDescriptor yX10_distance.desc).map (fun d => d.parameters.length) = some 3 := by decide +kernel
theorem md_X10_fewestSteps : yX10_fewestSteps.cls ≠ "java/lang/invoke/MethodHandle" ∧ yX10_fewestSteps.cls ≠ "java/lang/invoke/VarHandle" ∧ (parseMethodDescriptor yX10_fewestSteps.desc).map (fun d => d.parameters.length) = some 3 := by decide +kernel
theorem md_X10_contourDistance : yX10_contourDistance.cls ≠ "java/lang/invoke/MethodHandle" ∧ yX10_contourDistance.cls ≠ "java/lang/invoke/VarHandle" ∧ (parseMethodDescriptor yX10_contourDistance.desc).map (fun d => d.parameters.length) = some 3 := by decide +kernel
theorem md_X10_lightest : yX10_lightest.cls ≠ "java/lang/invoke/MethodHandle" ∧ yX10_lightest.cls ≠ "java/lang/invoke/VarHandle" ∧ (parseMethodDescriptor yX10_lightest.desc).map (fun d => d.parameters.length) = some 4 := by decide +kernel
theorem md_X10_weight : yX10_weight.cls ≠ "java/lang/invoke/MethodHandle" ∧ yX10_weight.cls ≠ "java/lang/invoke/VarHandle" ∧ (parseMethodDescriptor yX10_weight.desc).map (fun d => d.parameters.length) = some 3 := by decide +kernel
theorem md_X11_init : yX11_init.cls ≠ "java/lang/invoke/MethodHandle" ∧ yX11_init.cls ≠ "java/lang/invoke/VarHandle" ∧ (parseMethodDescriptor yX11_init.desc).map (fun d => d.parameters.length) = some 0 := by decide +kernel
theorem md_X12_init : yX12_init.cls ≠ "java/lang/invoke/MethodHandle" ∧ yX12_init.cls ≠ "java/lang/invoke/VarHandle" ∧ (parseMethodDescriptor yX12_init.desc).map (fun d => d.parameters.length) = some 0 := by decide +kernel
theorem md_X12_feed : yX12_feed.cls ≠ "java/lang/invoke/MethodHandle" ∧ yX12_feed.cls ≠ "java/lang/invoke/VarHandle" ∧ (parseMethodDescriptor yX12_feed.desc).map (fun d => d.parameters.length) = some 5 := by decide +kernel
theorem md_X12_trim : yX12_trim.cls ≠ "java/lang/invoke/MethodHandle" ∧ yX12_trim.cls ≠ "java/lang/invoke/VarHandle" ∧ (parseMethodDescriptor yX12_trim.desc).map (fun d => d.parameters.length) = some 1 := by decide +kernel
theorem md_X12_teach : yX12_teach.cls ≠ "java/lang/invoke/MethodHandle" ∧ yX12_teach.cls ≠ "java/lang/invoke/VarHandle" ∧ (parseMethodDescriptor yX12_teach.desc).map (fun d => d.parameters.length) = some 0 := by decide +kernel
theorem md_X12_words : yX12_words.cls ≠ "java/lang/invoke/MethodHandle" ∧ yX12_words.cls ≠ "java/lang/invoke/VarHandle" ∧ (parseMethodDescriptor yX12_words.desc).map (fun d => d.parameters.length) = some 0 := by decide +kernel
theorem md_X12_keptWords : yX12_keptWords.cls ≠ "java/lang/invoke/MethodHandle" ∧ yX12_keptWords.cls ≠ "java/lang/invoke/VarHandle" ∧ (parseMethodDescriptor yX12_keptWords.desc).map (fun d => d.parameters.length) = some 0 := by decide +kernel
theorem md_X12_rules : yX12_rules.cls ≠ "java/lang/invoke/MethodHandle" ∧ yX12_rules.cls ≠ "java/lang/invoke/VarHandle" ∧ (parseMethodDescriptor yX12_rules.desc).map (fun d => d.parameters.length) = some 0 := by decide +kernel
theorem md_X12_lessons : yX12_lessons.cls ≠ "java/lang/invoke/MethodHandle" ∧ yX12_lessons.cls ≠ "java/lang/invoke/VarHandle" ∧ (parseMethodDescriptor yX12_lessons.desc).map (fun d => d.parameters.length) = some 0 := by decide +kernel
theorem md_X12_rulesCarriedOut : yX12_rulesCarriedOut.cls ≠ "java/lang/invoke/MethodHandle" ∧ yX12_rulesCarriedOut.cls ≠ "java/lang/invoke/VarHandle" ∧ (parseMethodDescriptor yX12_rulesCarriedOut.desc).map (fun d => d.parameters.length) = some 0 := by decide +kernel
theorem md_X12_heardBeats : yX12_heardBeats.cls ≠ "java/lang/invoke/MethodHandle" ∧ yX12_heardBeats.cls ≠ "java/lang/invoke/VarHandle" ∧ (parseMethodDescriptor yX12_heardBeats.desc).map (fun d => d.parameters.length) = some 0 := by decide +kernel
theorem md_X12_lengthOf : yX12_lengthOf.cls ≠ "java/lang/invoke/MethodHandle" ∧ yX12_lengthOf.cls ≠ "java/lang/invoke/VarHandle" ∧ (parseMethodDescriptor yX12_lengthOf.desc).map (fun d => d.parameters.length) = some 1 := by decide +kernel
theorem md_X12_pitchAt : yX12_pitchAt.cls ≠ "java/lang/invoke/MethodHandle" ∧ yX12_pitchAt.cls ≠ "java/lang/invoke/VarHandle" ∧ (parseMethodDescriptor yX12_pitchAt.desc).map (fun d => d.parameters.length) = some 2 := by decide +kernel
theorem md_X12_contourAt : yX12_contourAt.cls ≠ "java/lang/invoke/MethodHandle" ∧ yX12_contourAt.cls ≠ "java/lang/invoke/VarHandle" ∧ (parseMethodDescriptor yX12_contourAt.desc).map (fun d => d.parameters.length) = some 2 := by decide +kernel
theorem md_X12_isPruned : yX12_isPruned.cls ≠ "java/lang/invoke/MethodHandle" ∧ yX12_isPruned.cls ≠ "java/lang/invoke/VarHandle" ∧ (parseMethodDescriptor yX12_isPruned.desc).map (fun d => d.parameters.length) = some 1 := by decide +kernel
theorem md_X12_silentBeats : yX12_silentBeats.cls ≠ "java/lang/invoke/MethodHandle" ∧ yX12_silentBeats.cls ≠ "java/lang/invoke/VarHandle" ∧ (parseMethodDescriptor yX12_silentBeats.desc).map (fun d => d.parameters.length) = some 1 := by decide +kernel
theorem md_X12_distanceBetween : yX12_distanceBetween.cls ≠ "java/lang/invoke/MethodHandle" ∧ yX12_distanceBetween.cls ≠ "java/lang/invoke/VarHandle" ∧ (parseMethodDescriptor yX12_distanceBetween.desc).map (fun d => d.parameters.length) = some 2 := by decide +kernel
theorem md_X12_contourBetween : yX12_contourBetween.cls ≠ "java/lang/invoke/MethodHandle" ∧ yX12_contourBetween.cls ≠ "java/lang/invoke/VarHandle" ∧ (parseMethodDescriptor yX12_contourBetween.desc).map (fun d => d.parameters.length) = some 2 := by decide +kernel
theorem md_X12_areNear : yX12_areNear.cls ≠ "java/lang/invoke/MethodHandle" ∧ yX12_areNear.cls ≠ "java/lang/invoke/VarHandle" ∧ (parseMethodDescriptor yX12_areNear.desc).map (fun d => d.parameters.length) = some 2 := by decide +kernel
theorem md_X12_nearestTo : yX12_nearestTo.cls ≠ "java/lang/invoke/MethodHandle" ∧ yX12_nearestTo.cls ≠ "java/lang/invoke/VarHandle" ∧ (parseMethodDescriptor yX12_nearestTo.desc).map (fun d => d.parameters.length) = some 1 := by decide +kernel
theorem md_X12_isNeedless : yX12_isNeedless.cls ≠ "java/lang/invoke/MethodHandle" ∧ yX12_isNeedless.cls ≠ "java/lang/invoke/VarHandle" ∧ (parseMethodDescriptor yX12_isNeedless.desc).map (fun d => d.parameters.length) = some 1 := by decide +kernel
theorem md_X12_heardPitch : yX12_heardPitch.cls ≠ "java/lang/invoke/MethodHandle" ∧ yX12_heardPitch.cls ≠ "java/lang/invoke/VarHandle" ∧ (parseMethodDescriptor yX12_heardPitch.desc).map (fun d => d.parameters.length) = some 1 := by decide +kernel
theorem md_X12_distanceTo : yX12_distanceTo.cls ≠ "java/lang/invoke/MethodHandle" ∧ yX12_distanceTo.cls ≠ "java/lang/invoke/VarHandle" ∧ (parseMethodDescriptor yX12_distanceTo.desc).map (fun d => d.parameters.length) = some 1 := by decide +kernel
theorem md_X12_contourTo : yX12_contourTo.cls ≠ "java/lang/invoke/MethodHandle" ∧ yX12_contourTo.cls ≠ "java/lang/invoke/VarHandle" ∧ (parseMethodDescriptor yX12_contourTo.desc).map (fun d => d.parameters.length) = some 1 := by decide +kernel
theorem md_X12_stepsTo : yX12_stepsTo.cls ≠ "java/lang/invoke/MethodHandle" ∧ yX12_stepsTo.cls ≠ "java/lang/invoke/VarHandle" ∧ (parseMethodDescriptor yX12_stepsTo.desc).map (fun d => d.parameters.length) = some 1 := by decide +kernel
theorem md_X12_meantWord : yX12_meantWord.cls ≠ "java/lang/invoke/MethodHandle" ∧ yX12_meantWord.cls ≠ "java/lang/invoke/VarHandle" ∧ (parseMethodDescriptor yX12_meantWord.desc).map (fun d => d.parameters.length) = some 0 := by decide +kernel
theorem md_X12_surety : yX12_surety.cls ≠ "java/lang/invoke/MethodHandle" ∧ yX12_surety.cls ≠ "java/lang/invoke/VarHandle" ∧ (parseMethodDescriptor yX12_surety.desc).map (fun d => d.parameters.length) = some 0 := by decide +kernel
theorem md_X12_hear : yX12_hear.cls ≠ "java/lang/invoke/MethodHandle" ∧ yX12_hear.cls ≠ "java/lang/invoke/VarHandle" ∧ (parseMethodDescriptor yX12_hear.desc).map (fun d => d.parameters.length) = some 1 := by decide +kernel
theorem md_X12_hearWord : yX12_hearWord.cls ≠ "java/lang/invoke/MethodHandle" ∧ yX12_hearWord.cls ≠ "java/lang/invoke/VarHandle" ∧ (parseMethodDescriptor yX12_hearWord.desc).map (fun d => d.parameters.length) = some 2 := by decide +kernel
theorem md_X12_forget : yX12_forget.cls ≠ "java/lang/invoke/MethodHandle" ∧ yX12_forget.cls ≠ "java/lang/invoke/VarHandle" ∧ (parseMethodDescriptor yX12_forget.desc).map (fun d => d.parameters.length) = some 0 := by decide +kernel
theorem md_X12_turnPruned : yX12_turnPruned.cls ≠ "java/lang/invoke/MethodHandle" ∧ yX12_turnPruned.cls ≠ "java/lang/invoke/VarHandle" ∧ (parseMethodDescriptor yX12_turnPruned.desc).map (fun d => d.parameters.length) = some 1 := by decide +kernel
theorem md_X12_pruneNeedless : yX12_pruneNeedless.cls ≠ "java/lang/invoke/MethodHandle" ∧ yX12_pruneNeedless.cls ≠ "java/lang/invoke/VarHandle" ∧ (parseMethodDescriptor yX12_pruneNeedless.desc).map (fun d => d.parameters.length) = some 0 := by decide +kernel
theorem md_X12_passLessons : yX12_passLessons.cls ≠ "java/lang/invoke/MethodHandle" ∧ yX12_passLessons.cls ≠ "java/lang/invoke/VarHandle" ∧ (parseMethodDescriptor yX12_passLessons.desc).map (fun d => d.parameters.length) = some 1 := by decide +kernel
theorem md_X12_keptAfter : yX12_keptAfter.cls ≠ "java/lang/invoke/MethodHandle" ∧ yX12_keptAfter.cls ≠ "java/lang/invoke/VarHandle" ∧ (parseMethodDescriptor yX12_keptAfter.desc).map (fun d => d.parameters.length) = some 1 := by decide +kernel
theorem md_X12_lessonsUntilMeant : yX12_lessonsUntilMeant.cls ≠ "java/lang/invoke/MethodHandle" ∧ yX12_lessonsUntilMeant.cls ≠ "java/lang/invoke/VarHandle" ∧ (parseMethodDescriptor yX12_lessonsUntilMeant.desc).map (fun d => d.parameters.length) = some 1 := by decide +kernel
theorem md_X12_bestShift : yX12_bestShift.cls ≠ "java/lang/invoke/MethodHandle" ∧ yX12_bestShift.cls ≠ "java/lang/invoke/VarHandle" ∧ (parseMethodDescriptor yX12_bestShift.desc).map (fun d => d.parameters.length) = some 1 := by decide +kernel
theorem md_X12_meanLength : yX12_meanLength.cls ≠ "java/lang/invoke/MethodHandle" ∧ yX12_meanLength.cls ≠ "java/lang/invoke/VarHandle" ∧ (parseMethodDescriptor yX12_meanLength.desc).map (fun d => d.parameters.length) = some 0 := by decide +kernel
theorem md_X12_digest : yX12_digest.cls ≠ "java/lang/invoke/MethodHandle" ∧ yX12_digest.cls ≠ "java/lang/invoke/VarHandle" ∧ (parseMethodDescriptor yX12_digest.desc).map (fun d => d.parameters.length) = some 0 := by decide +kernel
theorem md_X12_requireWord : yX12_requireWord.cls ≠ "java/lang/invoke/MethodHandle" ∧ yX12_requireWord.cls ≠ "java/lang/invoke/VarHandle" ∧ (parseMethodDescriptor yX12_requireWord.desc).map (fun d => d.parameters.length) = some 1 := by decide +kernel
theorem md_X12_requireBeat : yX12_requireBeat.cls ≠ "java/lang/invoke/MethodHandle" ∧ yX12_requireBeat.cls ≠ "java/lang/invoke/VarHandle" ∧ (parseMethodDescriptor yX12_requireBeat.desc).map (fun d => d.parameters.length) = some 2 := by decide +kernel
theorem md_X12_requireSomeHeard : yX12_requireSomeHeard.cls ≠ "java/lang/invoke/MethodHandle" ∧ yX12_requireSomeHeard.cls ≠ "java/lang/invoke/VarHandle" ∧ (parseMethodDescriptor yX12_requireSomeHeard.desc).map (fun d => d.parameters.length) = some 0 := by decide +kernel
theorem md_X12_requireMeant : yX12_requireMeant.cls ≠ "java/lang/invoke/MethodHandle" ∧ yX12_requireMeant.cls ≠ "java/lang/invoke/VarHandle" ∧ (parseMethodDescriptor yX12_requireMeant.desc).map (fun d => d.parameters.length) = some 1 := by decide +kernel
theorem md_X12_requireLessons : yX12_requireLessons.cls ≠ "java/lang/invoke/MethodHandle" ∧ yX12_requireLessons.cls ≠ "java/lang/invoke/VarHandle" ∧ (parseMethodDescriptor yX12_requireLessons.desc).map (fun d => d.parameters.length) = some 1 := by decide +kernel
theorem md_X12_beginAnew : yX12_beginAnew.cls ≠ "java/lang/invoke/MethodHandle" ∧ yX12_beginAnew.cls ≠ "java/lang/invoke/VarHandle" ∧ (parseMethodDescriptor yX12_beginAnew.desc).map (fun d => d.parameters.length) = some 0 := by decide +kernel
theorem md_X12_rowOf : yX12_rowOf.cls ≠ "java/lang/invoke/MethodHandle" ∧ yX12_rowOf.cls ≠ "java/lang/invoke/VarHandle" ∧ (parseMethodDescriptor yX12_rowOf.desc).map (fun d => d.parameters.length) = some 1 := by decide +kernel
theorem md_X12_wordsApart : yX12_wordsApart.cls ≠ "java/lang/invoke/MethodHandle" ∧ yX12_wordsApart.cls ≠ "java/lang/invoke/VarHandle" ∧ (parseMethodDescriptor yX12_wordsApart.desc).map (fun d => d.parameters.length) = some 2 := by decide +kernel
theorem md_X12_nearEachOther : yX12_nearEachOther.cls ≠ "java/lang/invoke/MethodHandle" ∧ yX12_nearEachOther.cls ≠ "java/lang/invoke/VarHandle" ∧ (parseMethodDescriptor yX12_nearEachOther.desc).map (fun d => d.parameters.length) = some 2 := by decide +kernel
theorem md_X12_needless : yX12_needless.cls ≠ "java/lang/invoke/MethodHandle" ∧ yX12_needless.cls ≠ "java/lang/invoke/VarHandle" ∧ (parseMethodDescriptor yX12_needless.desc).map (fun d => d.parameters.length) = some 1 := by decide +kernel
theorem md_X12_distanceIfShifted : yX12_distanceIfShifted.cls ≠ "java/lang/invoke/MethodHandle" ∧ yX12_distanceIfShifted.cls ≠ "java/lang/invoke/VarHandle" ∧ (parseMethodDescriptor yX12_distanceIfShifted.desc).map (fun d => d.parameters.length) = some 2 := by decide +kernel
theorem md_X12_digestOfWord : yX12_digestOfWord.cls ≠ "java/lang/invoke/MethodHandle" ∧ yX12_digestOfWord.cls ≠ "java/lang/invoke/VarHandle" ∧ (parseMethodDescriptor yX12_digestOfWord.desc).map (fun d => d.parameters.length) = some 2 := by decide +kernel
theorem md_X12_digestOfRow : yX12_digestOfRow.cls ≠ "java/lang/invoke/MethodHandle" ∧ yX12_digestOfRow.cls ≠ "java/lang/invoke/VarHandle" ∧ (parseMethodDescriptor yX12_digestOfRow.desc).map (fun d => d.parameters.length) = some 2 := by decide +kernel
theorem md_X12_quotient : yX12_quotient.cls ≠ "java/lang/invoke/MethodHandle" ∧ yX12_quotient.cls ≠ "java/lang/invoke/VarHandle" ∧ (parseMethodDescriptor yX12_quotient.desc).map (fun d => d.parameters.length) = some 2 := by decide +kernel
theorem md_X13_init : yX13_init.cls ≠ "java/lang/invoke/MethodHandle" ∧ yX13_init.cls ≠ "java/lang/invoke/VarHandle" ∧ (parseMethodDescriptor yX13_init.desc).map (fun d => d.parameters.length) = some 1 := by decide +kernel
theorem md_X13_next : yX13_next.cls ≠ "java/lang/invoke/MethodHandle" ∧ yX13_next.cls ≠ "java/lang/invoke/VarHandle" ∧ (parseMethodDescriptor yX13_next.desc).map (fun d => d.parameters.length) = some 1 := by decide +kernel
theorem md_X14_init : yX14_init.cls ≠ "java/lang/invoke/MethodHandle" ∧ yX14_init.cls ≠ "java/lang/invoke/VarHandle" ∧ (parseMethodDescriptor yX14_init.desc).map (fun d => d.parameters.length) = some 4 := by decide +kernel
theorem md_X14_sum : yX14_sum.cls ≠ "java/lang/invoke/MethodHandle" ∧ yX14_sum.cls ≠ "java/lang/invoke/VarHandle" ∧ (parseMethodDescriptor yX14_sum.desc).map (fun d => d.parameters.length) = some 3 := by decide +kernel
theorem md_X14_test : yX14_test.cls ≠ "java/lang/invoke/MethodHandle" ∧ yX14_test.cls ≠ "java/lang/invoke/VarHandle" ∧ (parseMethodDescriptor yX14_test.desc).map (fun d => d.parameters.length) = some 3 := by decide +kernel
theorem md_X14_text : yX14_text.cls ≠ "java/lang/invoke/MethodHandle" ∧ yX14_text.cls ≠ "java/lang/invoke/VarHandle" ∧ (parseMethodDescriptor yX14_text.desc).map (fun d => d.parameters.length) = some 0 := by decide +kernel
theorem md_X14_value : yX14_value.cls ≠ "java/lang/invoke/MethodHandle" ∧ yX14_value.cls ≠ "java/lang/invoke/VarHandle" ∧ (parseMethodDescriptor yX14_value.desc).map (fun d => d.parameters.length) = some 1 := by decide +kernel
theorem md_X14_both : yX14_both.cls ≠ "java/lang/invoke/MethodHandle" ∧ yX14_both.cls ≠ "java/lang/invoke/VarHandle" ∧ (parseMethodDescriptor yX14_both.desc).map (fun d => d.parameters.length) = some 3 := by decide +kernel
theorem md_X15_init : yX15_init.cls ≠ "java/lang/invoke/MethodHandle" ∧ yX15_init.cls ≠ "java/lang/invoke/VarHandle" ∧ (parseMethodDescriptor yX15_init.desc).map (fun d => d.parameters.length) = some 2 := by decide +kernel
theorem md_X15_text : yX15_text.cls ≠ "java/lang/invoke/MethodHandle" ∧ yX15_text.cls ≠ "java/lang/invoke/VarHandle" ∧ (parseMethodDescriptor yX15_text.desc).map (fun d => d.parameters.length) = some 0 := by decide +kernel
theorem md_X15_isDone : yX15_isDone.cls ≠ "java/lang/invoke/MethodHandle" ∧ yX15_isDone.cls ≠ "java/lang/invoke/VarHandle" ∧ (parseMethodDescriptor yX15_isDone.desc).map (fun d => d.parameters.length) = some 1 := by decide +kernel
theorem md_X16_init : yX16_init.cls ≠ "java/lang/invoke/MethodHandle" ∧ yX16_init.cls ≠ "java/lang/invoke/VarHandle" ∧ (parseMethodDescriptor yX16_init.desc).map (fun d => d.parameters.length) = some 2 := by decide +kernel
theorem md_X16_contour : yX16_contour.cls ≠ "java/lang/invoke/MethodHandle" ∧ yX16_contour.cls ≠ "java/lang/invoke/VarHandle" ∧ (parseMethodDescriptor yX16_contour.desc).map (fun d => d.parameters.length) = some 2 := by decide +kernel
theorem md_X16_apart : yX16_apart.cls ≠ "java/lang/invoke/MethodHandle" ∧ yX16_apart.cls ≠ "java/lang/invoke/VarHandle" ∧ (parseMethodDescriptor yX16_apart.desc).map (fun d => d.parameters.length) = some 2 := by decide +kernel
theorem md_X16_way : yX16_way.cls ≠ "java/lang/invoke/MethodHandle" ∧ yX16_way.cls ≠ "java/lang/invoke/VarHandle" ∧ (parseMethodDescriptor yX16_way.desc).map (fun d => d.parameters.length) = some 3 := by decide +kernel
theorem md_X16_far : yX16_far.cls ≠ "java/lang/invoke/MethodHandle" ∧ yX16_far.cls ≠ "java/lang/invoke/VarHandle" ∧ (parseMethodDescriptor yX16_far.desc).map (fun d => d.parameters.length) = some 2 := by decide +kernel
theorem md_X16_meant : yX16_meant.cls ≠ "java/lang/invoke/MethodHandle" ∧ yX16_meant.cls ≠ "java/lang/invoke/VarHandle" ∧ (parseMethodDescriptor yX16_meant.desc).map (fun d => d.parameters.length) = some 1 := by decide +kernel
theorem md_X16_kept : yX16_kept.cls ≠ "java/lang/invoke/MethodHandle" ∧ yX16_kept.cls ≠ "java/lang/invoke/VarHandle" ∧ (parseMethodDescriptor yX16_kept.desc).map (fun d => d.parameters.length) = some 0 := by decide +kernel
theorem md_X16_near : yX16_near.cls ≠ "java/lang/invoke/MethodHandle" ∧ yX16_near.cls ≠ "java/lang/invoke/VarHandle" ∧ (parseMethodDescriptor yX16_near.desc).map (fun d => d.parameters.length) = some 2 := by decide +kernel
theorem md_X16_needless : yX16_needless.cls ≠ "java/lang/invoke/MethodHandle" ∧ yX16_needless.cls ≠ "java/lang/invoke/VarHandle" ∧ (parseMethodDescriptor yX16_needless.desc).map (fun d => d.parameters.length) = some 1 := by decide +kernel
theorem md_X16_shifted : yX16_shifted.cls ≠ "java/lang/invoke/MethodHandle" ∧ yX16_shifted.cls ≠ "java/lang/invoke/VarHandle" ∧ (parseMethodDescriptor yX16_shifted.desc).map (fun d => d.parameters.length) = some 2 := by decide +kernel
theorem md_X16_pass : yX16_pass.cls ≠ "java/lang/invoke/MethodHandle" ∧ yX16_pass.cls ≠ "java/lang/invoke/VarHandle" ∧ (parseMethodDescriptor yX16_pass.desc).map (fun d => d.parameters.length) = some 0 := by decide +kernel
theorem md_X16_pass_ : yX16_pass_.cls ≠ "java/lang/invoke/MethodHandle" ∧ yX16_pass_.cls ≠ "java/lang/invoke/VarHandle" ∧ (parseMethodDescriptor yX16_pass_.desc).map (fun d => d.parameters.length) = some 1 := by decide +kernel
theorem md_X16_isSame : yX16_isSame.cls ≠ "java/lang/invoke/MethodHandle" ∧ yX16_isSame.cls ≠ "java/lang/invoke/VarHandle" ∧ (parseMethodDescriptor yX16_isSame.desc).map (fun d => d.parameters.length) = some 1 := by decide +kernel
theorem md_J5_init_d00df : yJ5_init_d00df.cls ≠ "java/lang/invoke/MethodHandle" ∧ yJ5_init_d00df.cls ≠ "java/lang/invoke/VarHandle" ∧ (parseMethodDescriptor yJ5_init_d00df.desc).map (fun d => d.parameters.length) = some 1 := by decide +kernel
theorem md_J5_length_8abf5 : yJ5_length_8abf5.cls ≠ "java/lang/invoke/MethodHandle" ∧ yJ5_length_8abf5.cls ≠ "java/lang/invoke/VarHandle" ∧ (parseMethodDescriptor yJ5_length_8abf5.desc).map (fun d => d.parameters.length) = some 0 := by decide +kernel
theorem md_J5_ensureCapacityInternal_d00df : yJ5_ensureCapacityInternal_d00df.cls ≠ "java/lang/invoke/MethodHandle" ∧ yJ5_ensureCapacityInternal_d00df.cls ≠ "java/lang/invoke/VarHandle" ∧ (parseMethodDescriptor yJ5_ensureCapacityInternal_d00df.desc).map (fun d => d.parameters.length) = some 1 := by decide +kernel
theorem md_J5_newCapacity_0f7a4 : yJ5_newCapacity_0f7a4.cls ≠ "java/lang/invoke/MethodHandle" ∧ yJ5_newCapacity_0f7a4.cls ≠ "java/lang/invoke/VarHandle" ∧ (parseMethodDescriptor yJ5_newCapacity_0f7a4.desc).map (fun d => d.parameters.length) = some 1 := by decide +kernel
theorem md_J5_inflate_da8c8 : yJ5_inflate_da8c8.cls ≠ "java/lang/invoke/MethodHandle" ∧ yJ5_inflate_da8c8.cls ≠ "java/lang/invoke/VarHandle" ∧ (parseMethodDescriptor yJ5_inflate_da8c8.desc).map (fun d => d.parameters.length) = some 0 := by decide +kernel
theorem md_J5_append_cf1ce : yJ5_append_cf1ce.cls ≠ "java/lang/invoke/MethodHandle" ∧ yJ5_append_cf1ce.cls ≠ "java/lang/invoke/VarHandle" ∧ (parseMethodDescriptor yJ5_append_cf1ce.desc).map (fun d => d.parameters.length) = some 1 := by decide +kernel
theorem md_J5_appendNull_278bc : yJ5_appendNull_278bc.cls ≠ "java/lang/invoke/MethodHandle" ∧ yJ5_appendNull_278bc.cls ≠ "java/lang/invoke/VarHandle" ∧ (parseMethodDescriptor yJ5_appendNull_278bc.desc).map (fun d => d.parameters.length) = some 0 := by decide +kernel
theorem md_J5_append_c97b9 : yJ5_append_c97b9.cls ≠ "java/lang/invoke/MethodHandle" ∧ yJ5_append_c97b9.cls ≠ "java/lang/invoke/VarHandle" ∧ (parseMethodDescriptor yJ5_append_c97b9.desc).map (fun d => d.parameters.length) = some 1 := by decide +kernel
theorem md_J5_getValue_6d5f1 : yJ5_getValue_6d5f1.cls ≠ "java/lang/invoke/MethodHandle" ∧ yJ5_getValue_6d5f1.cls ≠ "java/lang/invoke/VarHandle" ∧ (parseMethodDescriptor yJ5_getValue_6d5f1.desc).map (fun d => d.parameters.length) = some 0 := by decide +kernel
theorem md_J5_isLatin1_aae02 : yJ5_isLatin1_aae02.cls ≠ "java/lang/invoke/MethodHandle" ∧ yJ5_isLatin1_aae02.cls ≠ "java/lang/invoke/VarHandle" ∧ (parseMethodDescriptor yJ5_isLatin1_aae02.desc).map (fun d => d.parameters.length) = some 0 := by decide +kernel
theorem md_J5_inflateIfNeededFor_a7421 : yJ5_inflateIfNeededFor_a7421.cls ≠ "java/lang/invoke/MethodHandle" ∧ yJ5_inflateIfNeededFor_a7421.cls ≠ "java/lang/invoke/VarHandle" ∧ (parseMethodDescriptor yJ5_inflateIfNeededFor_a7421.desc).map (fun d => d.parameters.length) = some 1 := by decide +kernel
theorem md_J5_putStringAt_47b60 : yJ5_putStringAt_47b60.cls ≠ "java/lang/invoke/MethodHandle" ∧ yJ5_putStringAt_47b60.cls ≠ "java/lang/invoke/VarHandle" ∧ (parseMethodDescriptor yJ5_putStringAt_47b60.desc).map (fun d => d.parameters.length) = some 2 := by decide +kernel
theorem md_Jx29ce0_ordinal_8abf5 : yJx29ce0_ordinal_8abf5.cls ≠ "java/lang/invoke/MethodHandle" ∧ yJx29ce0_ordinal_8abf5.cls ≠ "java/lang/invoke/VarHandle" ∧ (parseMethodDescriptor yJx29ce0_ordinal_8abf5.desc).map (fun d => d.parameters.length) = some 0 := by decide +kernel
theorem md_J6_getChars_ba4f3 : yJ6_getChars_ba4f3.cls ≠ "java/lang/invoke/MethodHandle" ∧ yJ6_getChars_ba4f3.cls ≠ "java/lang/invoke/VarHandle" ∧ (parseMethodDescriptor yJ6_getChars_ba4f3.desc).map (fun d => d.parameters.length) = some 3 := by decide +kernel
theorem md_J6_stringSize_0f7a4 : yJ6_stringSize_0f7a4.cls ≠ "java/lang/invoke/MethodHandle" ∧ yJ6_stringSize_0f7a4.cls ≠ "java/lang/invoke/VarHandle" ∧ (parseMethodDescriptor yJ6_stringSize_0f7a4.desc).map (fun d => d.parameters.length) = some 1 := by decide +kernel
theorem md_J6_compare_7cf53 : yJ6_compare_7cf53.cls ≠ "java/lang/invoke/MethodHandle" ∧ yJ6_compare_7cf53.cls ≠ "java/lang/invoke/VarHandle" ∧ (parseMethodDescriptor yJ6_compare_7cf53.desc).map (fun d => d.parameters.length) = some 2 := by decide +kernel
theorem md_J9_abs_0f7a4 : yJ9_abs_0f7a4.cls ≠ "java/lang/invoke/MethodHandle" ∧ yJ9_abs_0f7a4.cls ≠ "java/lang/invoke/VarHandle" ∧ (parseMethodDescriptor yJ9_abs_0f7a4.desc).map (fun d => d.parameters.length) = some 1 := by decide +kernel
theorem md_J9_max_7cf53 : yJ9_max_7cf53.cls ≠ "java/lang/invoke/MethodHandle" ∧ yJ9_max_7cf53.cls ≠ "java/lang/invoke/VarHandle" ∧ (parseMethodDescriptor yJ9_max_7cf53.desc).map (fun d => d.parameters.length) = some 2 := by decide +kernel
theorem md_J9_min_7cf53 : yJ9_min_7cf53.cls ≠ "java/lang/invoke/MethodHandle" ∧ yJ9_min_7cf53.cls ≠ "java/lang/invoke/VarHandle" ∧ (parseMethodDescriptor yJ9_min_7cf53.desc).map (fun d => d.parameters.length) = some 2 := by decide +kernel
theorem md_J0_init_81219 : yJ0_init_81219.cls ≠ "java/lang/invoke/MethodHandle" ∧ yJ0_init_81219.cls ≠ "java/lang/invoke/VarHandle" ∧ (parseMethodDescriptor yJ0_init_81219.desc).map (fun d => d.parameters.length) = some 1 := by decide +kernel
theorem md_J0_length_8abf5 : yJ0_length_8abf5.cls ≠ "java/lang/invoke/MethodHandle" ∧ yJ0_length_8abf5.cls ≠ "java/lang/invoke/VarHandle" ∧ (parseMethodDescriptor yJ0_length_8abf5.desc).map (fun d => d.parameters.length) = some 0 := by decide +kernel
theorem md_J0_charAt_5068e : yJ0_charAt_5068e.cls ≠ "java/lang/invoke/MethodHandle" ∧ yJ0_charAt_5068e.cls ≠ "java/lang/invoke/VarHandle" ∧ (parseMethodDescriptor yJ0_charAt_5068e.desc).map (fun d => d.parameters.length) = some 1 := by decide +kernel
theorem md_J0_getBytes_840e7 : yJ0_getBytes_840e7.cls ≠ "java/lang/invoke/MethodHandle" ∧ yJ0_getBytes_840e7.cls ≠ "java/lang/invoke/VarHandle" ∧ (parseMethodDescriptor yJ0_getBytes_840e7.desc).map (fun d => d.parameters.length) = some 3 := by decide +kernel
theorem md_J0_init_db425 : yJ0_init_db425.cls ≠ "java/lang/invoke/MethodHandle" ∧ yJ0_init_db425.cls ≠ "java/lang/invoke/VarHandle" ∧ (parseMethodDescriptor yJ0_init_db425.desc).map (fun d => d.parameters.length) = some 2 := by decide +kernel
theorem md_J0_coder_7d493 : yJ0_coder_7d493.cls ≠ "java/lang/invoke/MethodHandle" ∧ yJ0_coder_7d493.cls ≠ "java/lang/invoke/VarHandle" ∧ (parseMethodDescriptor yJ0_coder_7d493.desc).map (fun d => d.parameters.length) = some 0 := by decide +kernel
theorem md_J0_isLatin1_aae02 : yJ0_isLatin1_aae02.cls ≠ "java/lang/invoke/MethodHandle" ∧ yJ0_isLatin1_aae02.cls ≠ "java/lang/invoke/VarHandle" ∧ (parseMethodDescriptor yJ0_isLatin1_aae02.desc).map (fun d => d.parameters.length) = some 0 := by decide +kernel
theorem md_J0_checkBoundsOffCount_cabcc : yJ0_checkBoundsOffCount_cabcc.cls ≠ "java/lang/invoke/MethodHandle" ∧ yJ0_checkBoundsOffCount_cabcc.cls ≠ "java/lang/invoke/VarHandle" ∧ (parseMethodDescriptor yJ0_checkBoundsOffCount_cabcc.desc).map (fun d => d.parameters.length) = some 3 := by decide +kernel
theorem md_J0_checkBoundsBeginEnd_23922 : yJ0_checkBoundsBeginEnd_23922.cls ≠ "java/lang/invoke/MethodHandle" ∧ yJ0_checkBoundsBeginEnd_23922.cls ≠ "java/lang/invoke/VarHandle" ∧ (parseMethodDescriptor yJ0_checkBoundsBeginEnd_23922.desc).map (fun d => d.parameters.length) = some 3 := by decide +kernel
theorem md_J4_init_da8c8 : yJ4_init_da8c8.cls ≠ "java/lang/invoke/MethodHandle" ∧ yJ4_init_da8c8.cls ≠ "java/lang/invoke/VarHandle" ∧ (parseMethodDescriptor yJ4_init_da8c8.desc).map (fun d => d.parameters.length) = some 0 := by decide +kernel
theorem md_J4_append_15ec4 : yJ4_append_15ec4.cls ≠ "java/lang/invoke/MethodHandle" ∧ yJ4_append_15ec4.cls ≠ "java/lang/invoke/VarHandle" ∧ (parseMethodDescriptor yJ4_append_15ec4.desc).map (fun d => d.parameters.length) = some 1 := by decide +kernel
theorem md_J4_append_bf812 : yJ4_append_bf812.cls ≠ "java/lang/invoke/MethodHandle" ∧ yJ4_append_bf812.cls ≠ "java/lang/invoke/VarHandle" ∧ (parseMethodDescriptor yJ4_append_bf812.desc).map (fun d => d.parameters.length) = some 1 := by decide +kernel
theorem md_J4_toString_0e30d : yJ4_toString_0e30d.cls ≠ "java/lang/invoke/MethodHandle" ∧ yJ4_toString_0e30d.cls ≠ "java/lang/invoke/VarHandle" ∧ (parseMethodDescriptor yJ4_toString_0e30d.desc).map (fun d => d.parameters.length) = some 0 := by decide +kernel
theorem md_J4_length_8abf5 : yJ4_length_8abf5.cls ≠ "java/lang/invoke/MethodHandle" ∧ yJ4_length_8abf5.cls ≠ "java/lang/invoke/VarHandle" ∧ (parseMethodDescriptor yJ4_length_8abf5.desc).map (fun d => d.parameters.length) = some 0 := by decide +kernel
theorem md_J1_charAt_3b067 : yJ1_charAt_3b067.cls ≠ "java/lang/invoke/MethodHandle" ∧ yJ1_charAt_3b067.cls ≠ "java/lang/invoke/VarHandle" ∧ (parseMethodDescriptor yJ1_charAt_3b067.desc).map (fun d => d.parameters.length) = some 2 := by decide +kernel
theorem md_J1_inflate_0e8fd : yJ1_inflate_0e8fd.cls ≠ "java/lang/invoke/MethodHandle" ∧ yJ1_inflate_0e8fd.cls ≠ "java/lang/invoke/VarHandle" ∧ (parseMethodDescriptor yJ1_inflate_0e8fd.desc).map (fun d => d.parameters.length) = some 5 := by decide +kernel
theorem md_J2_newBytesFor_77867 : yJ2_newBytesFor_77867.cls ≠ "java/lang/invoke/MethodHandle" ∧ yJ2_newBytesFor_77867.cls ≠ "java/lang/invoke/VarHandle" ∧ (parseMethodDescriptor yJ2_newBytesFor_77867.desc).map (fun d => d.parameters.length) = some 1 := by decide +kernel
theorem md_J2_newBytesLength_0f7a4 : yJ2_newBytesLength_0f7a4.cls ≠ "java/lang/invoke/MethodHandle" ∧ yJ2_newBytesLength_0f7a4.cls ≠ "java/lang/invoke/VarHandle" ∧ (parseMethodDescriptor yJ2_newBytesLength_0f7a4.desc).map (fun d => d.parameters.length) = some 1 := by decide +kernel
theorem md_J2_putChar_b72d1 : yJ2_putChar_b72d1.cls ≠ "java/lang/invoke/MethodHandle" ∧ yJ2_putChar_b72d1.cls ≠ "java/lang/invoke/VarHandle" ∧ (parseMethodDescriptor yJ2_putChar_b72d1.desc).map (fun d => d.parameters.length) = some 3 := by decide +kernel
theorem md_J2_getChar_3b067 : yJ2_getChar_3b067.cls ≠ "java/lang/invoke/MethodHandle" ∧ yJ2_getChar_3b067.cls ≠ "java/lang/invoke/VarHandle" ∧ (parseMethodDescriptor yJ2_getChar_3b067.desc).map (fun d => d.parameters.length) = some 2 := by decide +kernel
theorem md_J2_length_9d52b : yJ2_length_9d52b.cls ≠ "java/lang/invoke/MethodHandle" ∧ yJ2_length_9d52b.cls ≠ "java/lang/invoke/VarHandle" ∧ (parseMethodDescriptor yJ2_length_9d52b.desc).map (fun d => d.parameters.length) = some 1 := by decide +kernel
theorem md_J2_coderFromArrayLen_85cad : yJ2_coderFromArrayLen_85cad.cls ≠ "java/lang/invoke/MethodHandle" ∧ yJ2_coderFromArrayLen_85cad.cls ≠ "java/lang/invoke/VarHandle" ∧ (parseMethodDescriptor yJ2_coderFromArrayLen_85cad.desc).map (fun d => d.parameters.length) = some 2 := by decide +kernel
theorem md_J2_compress_39247 : yJ2_compress_39247.cls ≠ "java/lang/invoke/MethodHandle" ∧ yJ2_compress_39247.cls ≠ "java/lang/invoke/VarHandle" ∧ (parseMethodDescriptor yJ2_compress_39247.desc).map (fun d => d.parameters.length) = some 3 := by decide +kernel
theorem md_J2_compress_5af95 : yJ2_compress_5af95.cls ≠ "java/lang/invoke/MethodHandle" ∧ yJ2_compress_5af95.cls ≠ "java/lang/invoke/VarHandle" ∧ (parseMethodDescriptor yJ2_compress_5af95.desc).map (fun d => d.parameters.length) = some 5 := by decide +kernel
theorem md_J2_getChars_46870 : yJ2_getChars_46870.cls ≠ "java/lang/invoke/MethodHandle" ∧ yJ2_getChars_46870.cls ≠ "java/lang/invoke/VarHandle" ∧ (parseMethodDescriptor yJ2_getChars_46870.desc).map (fun d => d.parameters.length) = some 4 := by decide +kernel
theorem md_J2_putCharsAt_cd4e5 : yJ2_putCharsAt_cd4e5.cls ≠ "java/lang/invoke/MethodHandle" ∧ yJ2_putCharsAt_cd4e5.cls ≠ "java/lang/invoke/VarHandle" ∧ (parseMethodDescriptor yJ2_putCharsAt_cd4e5.desc).map (fun d => d.parameters.length) = some 6 := by decide +kernel
theorem md_J2_charAt_3b067 : yJ2_charAt_3b067.cls ≠ "java/lang/invoke/MethodHandle" ∧ yJ2_charAt_3b067.cls ≠ "java/lang/invoke/VarHandle" ∧ (parseMethodDescriptor yJ2_charAt_3b067.desc).map (fun d => d.parameters.length) = some 2 := by decide +kernel
theorem md_J2_inflate_0e8fd : yJ2_inflate_0e8fd.cls ≠ "java/lang/invoke/MethodHandle" ∧ yJ2_inflate_0e8fd.cls ≠ "java/lang/invoke/VarHandle" ∧ (parseMethodDescriptor yJ2_inflate_0e8fd.desc).map (fun d => d.parameters.length) = some 5 := by decide +kernel
theorem md_J2_getChars_ba4f3 : yJ2_getChars_ba4f3.cls ≠ "java/lang/invoke/MethodHandle" ∧ yJ2_getChars_ba4f3.cls ≠ "java/lang/invoke/VarHandle" ∧ (parseMethodDescriptor yJ2_getChars_ba4f3.desc).map (fun d => d.parameters.length) = some 3 := by decide +kernel
theorem md_J2_checkIndex_2214a : yJ2_checkIndex_2214a.cls ≠ "java/lang/invoke/MethodHandle" ∧ yJ2_checkIndex_2214a.cls ≠ "java/lang/invoke/VarHandle" ∧ (parseMethodDescriptor yJ2_checkIndex_2214a.desc).map (fun d => d.parameters.length) = some 2 := by decide +kernel
theorem md_J2_checkBoundsBeginEnd_d044e : yJ2_checkBoundsBeginEnd_d044e.cls ≠ "java/lang/invoke/MethodHandle" ∧ yJ2_checkBoundsBeginEnd_d044e.cls ≠ "java/lang/invoke/VarHandle" ∧ (parseMethodDescriptor yJ2_checkBoundsBeginEnd_d044e.desc).map (fun d => d.parameters.length) = some 3 := by decide +kernel
theorem md_J2_checkBoundsOffCount_d044e : yJ2_checkBoundsOffCount_d044e.cls ≠ "java/lang/invoke/MethodHandle" ∧ yJ2_checkBoundsOffCount_d044e.cls ≠ "java/lang/invoke/VarHandle" ∧ (parseMethodDescriptor yJ2_checkBoundsOffCount_d044e.desc).map (fun d => d.parameters.length) = some 3 := by decide +kernel
theorem md_J7_copyOf_9075b : yJ7_copyOf_9075b.cls ≠ "java/lang/invoke/MethodHandle" ∧ yJ7_copyOf_9075b.cls ≠ "java/lang/invoke/VarHandle" ∧ (parseMethodDescriptor yJ7_copyOf_9075b.desc).map (fun d => d.parameters.length) = some 2 := by decide +kernel
theorem md_J7_checkLength_df160 : yJ7_checkLength_df160.cls ≠ "java/lang/invoke/MethodHandle" ∧ yJ7_checkLength_df160.cls ≠ "java/lang/invoke/VarHandle" ∧ (parseMethodDescriptor yJ7_checkLength_df160.desc).map (fun d => d.parameters.length) = some 2 := by decide +kernel
theorem md_J7_copyOfRange_39247 : yJ7_copyOfRange_39247.cls ≠ "java/lang/invoke/MethodHandle" ∧ yJ7_copyOfRange_39247.cls ≠ "java/lang/invoke/VarHandle" ∧ (parseMethodDescriptor yJ7_copyOfRange_39247.desc).map (fun d => d.parameters.length) = some 3 := by decide +kernel
theorem md_J7_copyOfRangeByte_39247 : yJ7_copyOfRangeByte_39247.cls ≠ "java/lang/invoke/MethodHandle" ∧ yJ7_copyOfRangeByte_39247.cls ≠ "java/lang/invoke/VarHandle" ∧ (parseMethodDescriptor yJ7_copyOfRangeByte_39247.desc).map (fun d => d.parameters.length) = some 3 := by decide +kernel
theorem md_J8_newLength_cabcc : yJ8_newLength_cabcc.cls ≠ "java/lang/invoke/MethodHandle" ∧ yJ8_newLength_cabcc.cls ≠ "java/lang/invoke/VarHandle" ∧ (parseMethodDescriptor yJ8_newLength_cabcc.desc).map (fun d => d.parameters.length) = some 3 := by decide +kernel
theorem md_J8_hugeLength_7cf53 : yJ8_hugeLength_7cf53.cls ≠ "java/lang/invoke/MethodHandle" ∧ yJ8_hugeLength_7cf53.cls ≠ "java/lang/invoke/VarHandle" ∧ (parseMethodDescriptor yJ8_hugeLength_7cf53.desc).map (fun d => d.parameters.length) = some 2 := by decide +kernel
theorem md_J3_checkIndex_8e157 : yJ3_checkIndex_8e157.cls ≠ "java/lang/invoke/MethodHandle" ∧ yJ3_checkIndex_8e157.cls ≠ "java/lang/invoke/VarHandle" ∧ (parseMethodDescriptor yJ3_checkIndex_8e157.desc).map (fun d => d.parameters.length) = some 3 := by decide +kernel
theorem md_J3_checkFromToIndex_8c36e : yJ3_checkFromToIndex_8c36e.cls ≠ "java/lang/invoke/MethodHandle" ∧ yJ3_checkFromToIndex_8c36e.cls ≠ "java/lang/invoke/VarHandle" ∧ (parseMethodDescriptor yJ3_checkFromToIndex_8c36e.desc).map (fun d => d.parameters.length) = some 4 := by decide +kernel
theorem md_J3_checkFromIndexSize_8c36e : yJ3_checkFromIndexSize_8c36e.cls ≠ "java/lang/invoke/MethodHandle" ∧ yJ3_checkFromIndexSize_8c36e.cls ≠ "java/lang/invoke/VarHandle" ∧ (parseMethodDescriptor yJ3_checkFromIndexSize_8c36e.desc).map (fun d => d.parameters.length) = some 4 := by decide +kernel
theorem md_L_below : yL_below.cls ≠ "java/lang/invoke/MethodHandle" ∧ yL_below.cls ≠ "java/lang/invoke/VarHandle" ∧ (parseMethodDescriptor yL_below.desc).map (fun d => d.parameters.length) = some 2 := by decide +kernel
theorem md_L_cell : yL_cell.cls ≠ "java/lang/invoke/MethodHandle" ∧ yL_cell.cls ≠ "java/lang/invoke/VarHandle" ∧ (parseMethodDescriptor yL_cell.desc).map (fun d => d.parameters.length) = some 2 := by decide +kernel
theorem md_L_taught : yL_taught.cls ≠ "java/lang/invoke/MethodHandle" ∧ yL_taught.cls ≠ "java/lang/invoke/VarHandle" ∧ (parseMethodDescriptor yL_taught.desc).map (fun d => d.parameters.length) = some 2 := by decide +kernel
theorem md_L_drawn : yL_drawn.cls ≠ "java/lang/invoke/MethodHandle" ∧ yL_drawn.cls ≠ "java/lang/invoke/VarHandle" ∧ (parseMethodDescriptor yL_drawn.desc).map (fun d => d.parameters.length) = some 4 := by decide +kernel
theorem md_L_act : yL_act.cls ≠ "java/lang/invoke/MethodHandle" ∧ yL_act.cls ≠ "java/lang/invoke/VarHandle" ∧ (parseMethodDescriptor yL_act.desc).map (fun d => d.parameters.length) = some 3 := by decide +kernel
theorem md_L_meant : yL_meant.cls ≠ "java/lang/invoke/MethodHandle" ∧ yL_meant.cls ≠ "java/lang/invoke/VarHandle" ∧ (parseMethodDescriptor yL_meant.desc).map (fun d => d.parameters.length) = some 1 := by decide +kernel
theorem md_L_surety : yL_surety.cls ≠ "java/lang/invoke/MethodHandle" ∧ yL_surety.cls ≠ "java/lang/invoke/VarHandle" ∧ (parseMethodDescriptor yL_surety.desc).map (fun d => d.parameters.length) = some 1 := by decide +kernel
theorem g_sw_X1_isJoin_8 {v : Int32} (h0 : ¬ v = (7 : Int32)) (h1 : ¬ v = (8 : Int32)) (h2 : ¬ v = (9 : Int32)) (h3 : ¬ v = (10 : Int32)) (h4 : ¬ v = (11 : Int32)) (h5 : ¬ v = (12 : Int32)) (h6 : ¬ v = (13 : Int32)) (h7 : ¬ v = (14 : Int32)) (h8 : ¬ v = (15 : Int32)) (h9 : ¬ v = (16 : Int32)) (h10 : ¬ v = (17 : Int32)) (h11 : ¬ v = (18 : Int32)) (h12 : ¬ v = (19 : Int32)) : v.toInt < 7 ∨ 19 < v.toInt := by
  have e0 := g_ne h0 (n := 7) (by decide)
  have e1 := g_ne h1 (n := 8) (by decide)
  have e2 := g_ne h2 (n := 9) (by decide)
  have e3 := g_ne h3 (n := 10) (by decide)
  have e4 := g_ne h4 (n := 11) (by decide)
  have e5 := g_ne h5 (n := 12) (by decide)
  have e6 := g_ne h6 (n := 13) (by decide)
  have e7 := g_ne h7 (n := 14) (by decide)
  have e8 := g_ne h8 (n := 15) (by decide)
  have e9 := g_ne h9 (n := 16) (by decide)
  have e10 := g_ne h10 (n := 17) (by decide)
  have e11 := g_ne h11 (n := 18) (by decide)
  have e12 := g_ne h12 (n := 19) (by decide)
  omega
theorem g_sw_X1_compares_8 {v : Int32} (h0 : ¬ v = (15 : Int32)) (h1 : ¬ v = (16 : Int32)) (h2 : ¬ v = (17 : Int32)) (h3 : ¬ v = (18 : Int32)) (h4 : ¬ v = (19 : Int32)) : v.toInt < 15 ∨ 19 < v.toInt := by
  have e0 := g_ne h0 (n := 15) (by decide)
  have e1 := g_ne h1 (n := 16) (by decide)
  have e2 := g_ne h2 (n := 17) (by decide)
  have e3 := g_ne h3 (n := 18) (by decide)
  have e4 := g_ne h4 (n := 19) (by decide)
  omega
theorem g_sw_X1_join_8 {v : Int32} (h0 : ¬ v = (7 : Int32)) (h1 : ¬ v = (8 : Int32)) (h2 : ¬ v = (9 : Int32)) (h3 : ¬ v = (10 : Int32)) (h4 : ¬ v = (11 : Int32)) (h5 : ¬ v = (12 : Int32)) (h6 : ¬ v = (13 : Int32)) (h7 : ¬ v = (14 : Int32)) : v.toInt < 7 ∨ 14 < v.toInt := by
  have e0 := g_ne h0 (n := 7) (by decide)
  have e1 := g_ne h1 (n := 8) (by decide)
  have e2 := g_ne h2 (n := 9) (by decide)
  have e3 := g_ne h3 (n := 10) (by decide)
  have e4 := g_ne h4 (n := 11) (by decide)
  have e5 := g_ne h5 (n := 12) (by decide)
  have e6 := g_ne h6 (n := 13) (by decide)
  have e7 := g_ne h7 (n := 14) (by decide)
  omega
theorem g_sw_X1_found_8 {v : Int32} (h0 : ¬ v = (1 : Int32)) (h1 : ¬ v = (2 : Int32)) (h2 : ¬ v = (3 : Int32)) (h3 : ¬ v = (4 : Int32)) (h4 : ¬ v = (5 : Int32)) (h5 : ¬ v = (6 : Int32)) : v.toInt < 1 ∨ 6 < v.toInt := by
  have e0 := g_ne h0 (n := 1) (by decide)
  have e1 := g_ne h1 (n := 2) (by decide)
  have e2 := g_ne h2 (n := 3) (by decide)
  have e3 := g_ne h3 (n := 4) (by decide)
  have e4 := g_ne h4 (n := 5) (by decide)
  have e5 := g_ne h5 (n := 6) (by decide)
  omega
theorem k_0 : kd 0 = 1 := by decide
theorem k_1 : kd 1 = 2 := by decide
theorem k_2 : kd 2 = 20 := by decide
theorem k_3 : kd 3 = 3 := by decide
theorem k_4 : kd 4 = 21 := by decide
theorem k_5 : kd 5 = 22 := by decide
theorem k_6 : kd 6 = 22 := by decide
theorem k_7 : kd 7 = 22 := by decide
theorem k_8 : kd 8 = 4 := by decide
theorem k_9 : kd 9 = 23 := by decide
theorem k_10 : kd 10 = 5 := by decide
theorem k_12 : kd 12 = 5 := by decide
theorem k_14 : kd 14 = 5 := by decide
theorem k_16 : kd 16 = 5 := by decide
theorem k_18 : kd 18 = 6 := by decide
theorem k_19 : kd 19 = 25 := by decide
theorem k_162 : kd 162 = 11 := by decide
theorem k_163 : kd 163 = 29 := by decide
