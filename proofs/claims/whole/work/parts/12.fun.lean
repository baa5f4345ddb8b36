/-! the pure functions, laid by program out of the bytecode (wip/whole/gen) -/
def f_J0_coder_7d493 (t : Nat) : Option (Int32) :=
  if (1 : Int32) = 0 then (some ((1 : Int32))) else (if t < 72 then (some ((0 : Int32))) else none)
def f_J0_length_8abf5 (t : Nat) : Option (Int32) :=
  if t < 72 then (if t < 72 then (if t < 72 then ((f_J0_coder_7d493 t).bind fun q3 => some ((nI (g_len.getD t 0)) >>> (q3 &&& 31))) else none) else none) else none
def f_J0_isLatin1_aae02 (t : Nat) : Option (Int32) :=
  if (1 : Int32) = 0 then (some ((0 : Int32))) else (if t < 72 then (if (0 : Int32) = 0 then (some ((1 : Int32))) else (some ((0 : Int32)))) else none)
def f_J1_charAt_3b067 (p1 : Nat) (p2 : Int32) : Option (Int32) :=
  if p1 < 72 then (if ¬ p2 < 0 then (if p2 < (nI (g_len.getD p1 0)) then (if p1 < 72 then (if g_ok p2 (g_len.getD p1 0) = true then (some (((((g_byt.getD p1 []).getD p2.toNatClampNeg 0) &&& (255 : Int32)).toUInt32 % 65536).toInt32)) else none) else none) else none) else none) else none
def f_J0_charAt_5068e (t : Nat) (p1 : Int32) : Option (Int32) :=
  if t < 72 then ((f_J0_isLatin1_aae02 t).bind fun q1 => if q1 = 0 then (if t < 72 then (none) else none) else (if t < 72 then ((f_J1_charAt_3b067 t p1).bind fun q5 => if narrow .char (.int (q5)) = .int (q5) then (some (q5)) else none) else none)) else none
def f_J6_signum_0f7a4 (p1 : Int32) : Option (Int32) :=
  some ((p1 >>> ((31 : Int32) &&& 31)) ||| (((-p1).toUInt32 >>> ((31 : Int32).toUInt32 &&& Int32.toUInt32 31)).toInt32))
def f_J9_abs_0f7a4 (p1 : Int32) : Option (Int32) :=
  if 0 ≤ p1 then (some (p1)) else (some (-p1))
def f_J9_max_7cf53 (p1 : Int32) (p2 : Int32) : Option (Int32) :=
  if p1 < p2 then (some (p2)) else (some (p1))
def f_J9_max_f86c9 (p1 : Int64) (p2 : Int64) : Option (Int64) :=
  if (lg_cmp p1 p2) < 0 then (some (p2)) else (some (p1))
def f_J9_min_7cf53 (p1 : Int32) (p2 : Int32) : Option (Int32) :=
  if p2 < p1 then (some (p2)) else (some (p1))
def f_J9_min_f86c9 (p1 : Int64) (p2 : Int64) : Option (Int64) :=
  if 0 < (lg_cmp p1 p2) then (some (p2)) else (some (p1))
def f_X9_word (t : Nat) (p1 : Int32) (x : CS) : Option (Nat) :=
  if p1 < 0 then (some (t + 2)) else (if (8 : Int32) ≤ p1 then (some (t + 2)) else (if g_ok p1 8 = true then (some ((t + 1) + 4 + 3 * p1.toNatClampNeg)) else none))
def f_X9_closestKept_4 (x : CS) : Nat → Nat → Int32 → Int32 → Int32 → Option (Int32)
  | 0, _, _, _, _ => none
  | n + 1, l0, l1, l2, l3 => if (x.1 l0 2) ≤ l3 then (some (l2)) else (if l3 = l1 then (f_X9_closestKept_4 x n l0 l1 l2 (l3 + (1 : Int32))) else ((f_X9_word l0 l3 x).bind fun q3 => if kd (q3) = 10 then (if (x.1 q3 1) = 0 then (if l2 = (-1 : Int32) then (f_X9_closestKept_4 x n l0 l1 l3 (l3 + (1 : Int32))) else ((f_X9_word l0 l3 x).bind fun q7 => if kd (q7) = 10 then ((f_X9_word l0 l2 x).bind fun q9 => if kd (q9) = 10 then (if (x.1 q9 2) ≤ (x.1 q7 2) then (f_X9_closestKept_4 x n l0 l1 l2 (l3 + (1 : Int32))) else (f_X9_closestKept_4 x n l0 l1 l3 (l3 + (1 : Int32)))) else none) else none)) else (f_X9_closestKept_4 x n l0 l1 l2 (l3 + (1 : Int32)))) else none))
def f_X9_closestKept (t : Nat) (p1 : Int32) (x : CS) : Option (Int32) :=
  f_X9_closestKept_4 x g_fuel t p1 (-1 : Int32) (0 : Int32)
def f_X1_meantOf (p1 : Nat) (x : CS) : Option (Int32) :=
  if (x.1 14 1) = 0 then (some ((-1 : Int32))) else ((f_X9_closestKept p1 (-1 : Int32) x).bind fun q2 => some (q2))
def f_X3_pitch (t : Nat) (p1 : Int32) (x : CS) : Option (Int32) :=
  if p1 < 0 then (some ((0 : Int32))) else (if (24 : Int32) ≤ p1 then (some ((0 : Int32))) else (if g_ok p1 24 = true then (some (x.1 (t + 1) p1.toNatClampNeg)) else none))
def f_X10_weight_46  : Option (Int32) :=
  some (((10 : Int32) * (64 : Int32)) + (1 : Int32))
def f_X10_weight_29 (s0 : Int32) : Option (Int32) :=
  some ((s0 * (64 : Int32)) + (1 : Int32))
def f_X10_weight_14 (l0 : Int32) (l1 : Int32) (l2 : Int32) (s0 : Int32) : Option (Int32) :=
  if l2 = 0 then (if l0 = l1 then (some ((s0 * (64 : Int32)) + (1 : Int32))) else (if l0 = 0 then (f_X10_weight_46) else (if l1 = 0 then (f_X10_weight_46) else (some ((s0 * (64 : Int32)) + (1 : Int32)))))) else (if l0 = l1 then (f_X10_weight_29 (0 : Int32)) else (f_X10_weight_29 (1 : Int32)))
def f_X10_weight (p1 : Int32) (p2 : Int32) (p3 : Int32) : Option (Int32) :=
  if p2 ≤ p1 then (f_X10_weight_14 p1 p2 p3 (p1 - p2)) else (f_X10_weight_14 p1 p2 p3 (p2 - p1))
def f_X10_lightest_129 (k28 : Nat → Nat → Int32 → Int32 → Int32 → CS → Option (Int32 × CS)) (k53 : Nat → Nat → Int32 → Int32 → Int32 → Int32 → Int32 → CS → Option (Int32 × CS)) (l1 : Nat) (l2 : Nat) (l4 : Int32) (l5 : Int32) (l6 : Int32) (l8 : Int32) (l9 : Int32) (l10 : Int32) (s0 : Int32) (x : CS) : Option (Int32 × CS) :=
  if s0 = 0 then (if g_ok (l8 + (1 : Int32)) 25 = true then (k53 l1 l2 l4 l5 l6 l9 (l8 + (1 : Int32)) (g_wi x 9 (l8 + (1 : Int32)).toNatClampNeg (16777216 : Int32))) else none) else ((f_X3_pitch l1 l6 x).bind fun q18 => (f_X3_pitch l2 l8 x).bind fun q19 => (f_X10_weight q18 q19 l4).bind fun q20 => if g_ok (l8 + (1 : Int32)) 25 = true then (k53 l1 l2 l4 l5 l6 l9 (l8 + (1 : Int32)) (g_wi x 9 (l8 + (1 : Int32)).toNatClampNeg (l10 + q20))) else none)
def f_X10_lightest_128 (k28 : Nat → Nat → Int32 → Int32 → Int32 → CS → Option (Int32 × CS)) (k53 : Nat → Nat → Int32 → Int32 → Int32 → Int32 → Int32 → CS → Option (Int32 × CS)) (l1 : Nat) (l2 : Nat) (l4 : Int32) (l5 : Int32) (l6 : Int32) (l8 : Int32) (l9 : Int32) (l10 : Int32) (x : CS) : Option (Int32 × CS) :=
  f_X10_lightest_129 k28 k53 l1 l2 l4 l5 l6 l8 l9 l10 (0 : Int32) x
def f_X10_lightest_53 (k28 : Nat → Nat → Int32 → Int32 → Int32 → CS → Option (Int32 × CS)) : Nat → Nat → Nat → Int32 → Int32 → Int32 → Int32 → Int32 → CS → Option (Int32 × CS)
  | 0, _, _, _, _, _, _, _, _ => none
  | n + 1, l1, l2, l4, l5, l6, l7, l8, x => if (x.1 l2 1) ≤ l8 then (k28 l1 l2 l4 l5 (l6 + (1 : Int32)) x) else (if ((25 : Int32) - (1 : Int32)) ≤ l8 then (k28 l1 l2 l4 l5 (l6 + (1 : Int32)) x) else (if g_ok (l8 + (1 : Int32)) 25 = true then (if g_ok l8 25 = true then ((f_J9_min_7cf53 (x.1 9 (l8 + (1 : Int32)).toNatClampNeg) (x.1 9 l8.toNatClampNeg)).bind fun q11 => (f_J9_min_7cf53 l7 q11).bind fun q12 => if (16777216 : Int32) ≤ q12 then (f_X10_lightest_128 k28 (f_X10_lightest_53 k28 n) l1 l2 l4 l5 l6 l8 (x.1 9 (l8 + (1 : Int32)).toNatClampNeg) q12 x) else ((f_J9_abs_0f7a4 (l6 - l8)).bind fun q14 => if l5 < q14 then (f_X10_lightest_128 k28 (f_X10_lightest_53 k28 n) l1 l2 l4 l5 l6 l8 (x.1 9 (l8 + (1 : Int32)).toNatClampNeg) q12 x) else (f_X10_lightest_129 k28 (f_X10_lightest_53 k28 n) l1 l2 l4 l5 l6 l8 (x.1 9 (l8 + (1 : Int32)).toNatClampNeg) q12 (1 : Int32) x))) else none) else none))
def f_X10_lightest_28  : Nat → Nat → Nat → Int32 → Int32 → Int32 → CS → Option (Int32 × CS)
  | 0, _, _, _, _, _, _ => none
  | n + 1, l1, l2, l4, l5, l6, x => if (x.1 l1 1) ≤ l6 then (if (x.1 l2 1) < 0 then (some (((16777216 : Int32), x))) else (if (25 : Int32) ≤ (x.1 l2 1) then (some (((16777216 : Int32), x))) else (if g_ok (x.1 l2 1) 25 = true then (some ((x.1 9 (x.1 l2 1).toNatClampNeg, x))) else none))) else (if l6 = 0 then (f_X10_lightest_53 (f_X10_lightest_28 n) g_fuel l1 l2 l4 l5 l6 (0 : Int32) (0 : Int32) x) else (f_X10_lightest_53 (f_X10_lightest_28 n) g_fuel l1 l2 l4 l5 l6 (16777216 : Int32) (0 : Int32) x))
def f_X10_lightest (p1 : Nat) (p2 : Nat) (p3 : Int32) (p4 : Int32) (x : CS) : Option (Int32 × CS) :=
  (f_J9_abs_0f7a4 ((x.1 p1 1) - (x.1 p2 1))).bind fun q1 => f_X10_lightest_28 g_fuel p1 p2 p4 (p3 + q1) (0 : Int32) (g_fl x 9 25 (16777216 : Int32))
def f_X10_distance (p1 : Nat) (p2 : Nat) (p3 : Int32) (x : CS) : Option (Int32 × CS) :=
  (f_X10_lightest p1 p2 p3 (0 : Int32) x).bind fun q1 => some ((q1.1 / (64 : Int32), q1.2))
def f_X1_measure (p1 : Nat) (p2 : Nat) (x : CS) : Option (CS) :=
  if (x.1 14 1) = 0 then (some (g_wi x p2 2 (999 : Int32))) else ((f_X10_distance (p2 + 1) 14 (x.1 p1 6) x).bind fun q2 => some (g_wi q2.2 p2 2 q2.1))
def f_X1_measureAll_2  : Nat → Nat → Nat → Int32 → CS → Option (CS)
  | 0, _, _, _, _ => none
  | n + 1, l1, l2, l3, x => if (x.1 l2 2) ≤ l3 then (some (x)) else ((f_X9_word l2 l3 x).bind fun q2 => if kd (q2) = 10 then ((f_X1_measure l1 q2 x).bind fun q4 => f_X1_measureAll_2 n l1 l2 (l3 + (1 : Int32)) q4) else none)
def f_X1_measureAll (p1 : Nat) (p2 : Nat) (x : CS) : Option (CS) :=
  f_X1_measureAll_2 g_fuel p1 p2 (0 : Int32) x
def f_X5_rule (t : Nat) (p1 : Int32) (x : CS) : Option (Nat) :=
  if p1 < 0 then (some (t + 2)) else (if (16 : Int32) ≤ p1 then (some (t + 2)) else (if g_ok p1 16 = true then (some ((t + 1) + 4 + 1 * p1.toNatClampNeg)) else none))
def f_X5_sign (t : Nat) (p1 : Int32) (x : CS) : Option (Nat) :=
  if p1 < 0 then (some (44)) else (if (400 : Int32) ≤ p1 then (some (44)) else (if g_ok p1 400 = true then (some (x.2 (t + 3) p1.toNatClampNeg)) else none))
def f_X1_pop (x : CS) : Option (Int32 × CS) :=
  if (x.1 18 3) < (1 : Int32) then (some (((0 : Int32), x))) else (if (x.1 18 3) ≤ (400 : Int32) then (if g_ok ((g_wi x 18 3 ((x.1 18 3) - (1 : Int32))).1 18 3) 400 = true then (some (((g_wi x 18 3 ((x.1 18 3) - (1 : Int32))).1 19 ((g_wi x 18 3 ((x.1 18 3) - (1 : Int32))).1 18 3).toNatClampNeg, g_wi x 18 3 ((x.1 18 3) - (1 : Int32))))) else none) else (some (((0 : Int32), x))))
def f_X1_push (p1 : Int32) (x : CS) : Option (CS) :=
  if (x.1 18 3) < 0 then (some (x)) else (if (400 : Int32) ≤ (x.1 18 3) then (some (x)) else (if g_ok (x.1 18 3) 400 = true then (some (g_wi (g_wi x 19 (x.1 18 3).toNatClampNeg p1) 18 3 (((g_wi x 19 (x.1 18 3).toNatClampNeg p1).1 18 3) + (1 : Int32)))) else none))
def f_X1_isJoin (p1 : Nat) (x : CS) : Option (Int32) :=
  if p1 < 46 then (if g_ok (nI p1) 46 = true then (if (g_sm.getD (nI p1).toNatClampNeg 0) = (7 : Int32) then (some ((1 : Int32))) else (if (g_sm.getD (nI p1).toNatClampNeg 0) = (8 : Int32) then (some ((1 : Int32))) else (if (g_sm.getD (nI p1).toNatClampNeg 0) = (9 : Int32) then (some ((1 : Int32))) else (if (g_sm.getD (nI p1).toNatClampNeg 0) = (10 : Int32) then (some ((1 : Int32))) else (if (g_sm.getD (nI p1).toNatClampNeg 0) = (11 : Int32) then (some ((1 : Int32))) else (if (g_sm.getD (nI p1).toNatClampNeg 0) = (12 : Int32) then (some ((1 : Int32))) else (if (g_sm.getD (nI p1).toNatClampNeg 0) = (13 : Int32) then (some ((1 : Int32))) else (if (g_sm.getD (nI p1).toNatClampNeg 0) = (14 : Int32) then (some ((1 : Int32))) else (if (g_sm.getD (nI p1).toNatClampNeg 0) = (15 : Int32) then (some ((1 : Int32))) else (if (g_sm.getD (nI p1).toNatClampNeg 0) = (16 : Int32) then (some ((1 : Int32))) else (if (g_sm.getD (nI p1).toNatClampNeg 0) = (17 : Int32) then (some ((1 : Int32))) else (if (g_sm.getD (nI p1).toNatClampNeg 0) = (18 : Int32) then (some ((1 : Int32))) else (if (g_sm.getD (nI p1).toNatClampNeg 0) = (19 : Int32) then (some ((1 : Int32))) else (some ((0 : Int32)))))))))))))))) else none) else none
def f_X12_quotient (p1 : Int32) (p2 : Int32) : Option (Int32) :=
  if p2 = 0 then (some ((0 : Int32))) else (if ¬ p2 = 0 then (some (p1 / p2)) else none)
def f_X1_compares (p1 : Nat) (p2 : Int32) (p3 : Int32) (x : CS) : Option (Int32) :=
  if p1 < 46 then (if g_ok (nI p1) 46 = true then (if (g_sm.getD (nI p1).toNatClampNeg 0) = (15 : Int32) then (if p3 ≤ p2 then (some ((0 : Int32))) else (some ((1 : Int32)))) else (if (g_sm.getD (nI p1).toNatClampNeg 0) = (16 : Int32) then (if p2 ≤ p3 then (some ((0 : Int32))) else (some ((1 : Int32)))) else (if (g_sm.getD (nI p1).toNatClampNeg 0) = (17 : Int32) then (if p2 = p3 then (some ((1 : Int32))) else (some ((0 : Int32)))) else (if (g_sm.getD (nI p1).toNatClampNeg 0) = (18 : Int32) then (if p3 < p2 then (some ((0 : Int32))) else (some ((1 : Int32)))) else (if (g_sm.getD (nI p1).toNatClampNeg 0) = (19 : Int32) then (if p2 < p3 then (some ((0 : Int32))) else (some ((1 : Int32)))) else (if p2 = p3 then (some ((1 : Int32))) else (some ((0 : Int32))))))))) else none) else none
def f_X1_join (p1 : Nat) (p2 : Int32) (p3 : Int32) (x : CS) : Option (Int32) :=
  if p1 < 46 then (if g_ok (nI p1) 46 = true then (if (g_sm.getD (nI p1).toNatClampNeg 0) = (7 : Int32) then (some (p2 &&& p3)) else (if (g_sm.getD (nI p1).toNatClampNeg 0) = (8 : Int32) then (some (p2 ||| p3)) else (if (g_sm.getD (nI p1).toNatClampNeg 0) = (9 : Int32) then ((f_J9_min_7cf53 p2 p3).bind fun q15 => some (q15)) else (if (g_sm.getD (nI p1).toNatClampNeg 0) = (10 : Int32) then ((f_J9_max_7cf53 p2 p3).bind fun q14 => some (q14)) else (if (g_sm.getD (nI p1).toNatClampNeg 0) = (11 : Int32) then (some (p2 + p3)) else (if (g_sm.getD (nI p1).toNatClampNeg 0) = (12 : Int32) then (some (p2 - p3)) else (if (g_sm.getD (nI p1).toNatClampNeg 0) = (13 : Int32) then (some (p2 * p3)) else (if (g_sm.getD (nI p1).toNatClampNeg 0) = (14 : Int32) then ((f_X12_quotient p2 p3).bind fun q13 => some (q13)) else ((f_X1_compares p1 p2 p3 x).bind fun q11 => if q11 = 0 then (some ((0 : Int32))) else (some ((1 : Int32)))))))))))) else none) else none
def f_X5_value (t : Nat) (p1 : Int32) (x : CS) : Option (Int32) :=
  if p1 < 0 then (some ((0 : Int32))) else (if (400 : Int32) ≤ p1 then (some ((0 : Int32))) else (if g_ok p1 400 = true then (some (x.1 (t + 4) p1.toNatClampNeg)) else none))
def f_X9_countKept_4 (x : CS) : Nat → Nat → Int32 → Int32 → Option (Int32)
  | 0, _, _, _ => none
  | n + 1, l0, l1, l2 => if (x.1 l0 2) ≤ l2 then (some (l1)) else ((f_X9_word l0 l2 x).bind fun q2 => if kd (q2) = 10 then (if (x.1 q2 1) = 0 then (f_X9_countKept_4 x n l0 (l1 + (1 : Int32)) (l2 + (1 : Int32))) else (f_X9_countKept_4 x n l0 l1 (l2 + (1 : Int32)))) else none)
def f_X9_countKept (t : Nat) (x : CS) : Option (Int32) :=
  f_X9_countKept_4 x g_fuel t (0 : Int32) (0 : Int32)
def f_X1_found (p1 : Nat) (p2 : Nat) (p3 : Int32) (x : CS) : Option (Int32) :=
  if p2 < 46 then (if g_ok (nI p2) 46 = true then (if (g_sm.getD (nI p2).toNatClampNeg 0) = (1 : Int32) then (some (x.1 p1 3)) else (if (g_sm.getD (nI p2).toNatClampNeg 0) = (2 : Int32) then ((f_X9_countKept p1 x).bind fun q18 => some (q18)) else (if (g_sm.getD (nI p2).toNatClampNeg 0) = (3 : Int32) then ((f_X9_word p1 p3 x).bind fun q16 => if kd (q16) = 10 then (some (x.1 q16 2)) else none) else (if (g_sm.getD (nI p2).toNatClampNeg 0) = (4 : Int32) then ((f_X9_word p1 p3 x).bind fun q14 => if kd (q14) = 10 then (some (x.1 (q14 + 1) 1)) else none) else (if (g_sm.getD (nI p2).toNatClampNeg 0) = (5 : Int32) then ((f_X1_meantOf p1 x).bind fun q12 => if q12 = p3 then (some ((1 : Int32))) else (some ((0 : Int32)))) else (if (g_sm.getD (nI p2).toNatClampNeg 0) = (6 : Int32) then ((f_X9_word p1 p3 x).bind fun q9 => if kd (q9) = 10 then (if (x.1 q9 1) = 0 then (some ((0 : Int32))) else (some ((1 : Int32)))) else none) else (some (p3)))))))) else none) else none
def f_X1_reckon_64 (k8 : Nat → Nat → Int32 → Int32 → CS → Option (Int32 × CS)) (l1 : Nat) (l2 : Nat) (l4 : Int32) (l5 : Int32) (s0 : Int32) (x : CS) : Option (Int32 × CS) :=
  (f_X1_push s0 x).bind fun q19 => k8 l1 l2 l4 (l5 + (1 : Int32)) q19
def f_X1_reckon_8  : Nat → Nat → Nat → Int32 → Int32 → CS → Option (Int32 × CS)
  | 0, _, _, _, _, _ => none
  | n + 1, l1, l2, l4, l5, x => if l4 ≤ l5 then ((f_X1_pop x).bind fun q2 => some ((q2.1, q2.2))) else ((f_X5_sign l1 l5 x).bind fun q3 => if q3 = 43 then ((f_X1_pop x).bind fun q17 => (f_X1_push (-q17.1) q17.2).bind fun q18 => f_X1_reckon_8 n l1 l2 l4 (l5 + (1 : Int32)) q18) else (if q3 = 21 then ((f_X1_pop x).bind fun q15 => if q15.1 = 0 then (f_X1_reckon_64 (f_X1_reckon_8 n) l1 l2 l4 l5 (1 : Int32) q15.2) else (f_X1_reckon_64 (f_X1_reckon_8 n) l1 l2 l4 l5 (0 : Int32) q15.2)) else ((f_X1_isJoin q3 x).bind fun q6 => if q6 = 0 then ((f_X5_value l1 l5 x).bind fun q8 => (f_X1_found l2 q3 q8 x).bind fun q9 => (f_X1_push q9 x).bind fun q10 => f_X1_reckon_8 n l1 l2 l4 (l5 + (1 : Int32)) q10) else ((f_X1_pop x).bind fun q11 => (f_X1_pop q11.2).bind fun q12 => (f_X1_join q3 q12.1 q11.1 q12.2).bind fun q13 => (f_X1_push q13 q12.2).bind fun q14 => f_X1_reckon_8 n l1 l2 l4 (l5 + (1 : Int32)) q14))))
def f_X1_reckon (p1 : Nat) (p2 : Nat) (p3 : Int32) (p4 : Int32) (x : CS) : Option (Int32 × CS) :=
  f_X1_reckon_8 g_fuel p1 p2 p4 p3 (g_wi x 18 3 (0 : Int32))
def f_X1_holds (p1 : Nat) (p2 : Nat) (p3 : Nat) (x : CS) : Option (Int32 × CS) :=
  if (x.1 p3 3) = (x.1 p3 4) then (some (((1 : Int32), x))) else ((f_X1_reckon p1 p2 (x.1 p3 3) (x.1 p3 4) x).bind fun q2 => if q2.1 = 0 then (some (((0 : Int32), q2.2))) else (some (((1 : Int32), q2.2))))
def f_X3_shift_75 (k4 : Nat → Int32 → Int32 → Int32 → CS → Option (Int32 × CS)) (l0 : Nat) (l1 : Int32) (l2 : Int32) (l3 : Int32) (l4 : Int32) (s0 : Int32) (s1 : Int32) (s2 : Nat) (x : CS) : Option (Int32 × CS) :=
  if g_ok s1 24 = true then (if l2 = 0 then (if g_ok l3 24 = true then (if ((g_wi x s2 s1.toNatClampNeg s0).1 (l0 + 1) l3.toNatClampNeg) = l4 then (k4 l0 l1 (0 : Int32) (l3 + (1 : Int32)) (g_wi x s2 s1.toNatClampNeg s0)) else (k4 l0 l1 (1 : Int32) (l3 + (1 : Int32)) (g_wi x s2 s1.toNatClampNeg s0))) else none) else (k4 l0 l1 (1 : Int32) (l3 + (1 : Int32)) (g_wi x s2 s1.toNatClampNeg s0))) else none
def f_X3_shift_4  : Nat → Nat → Int32 → Int32 → Int32 → CS → Option (Int32 × CS)
  | 0, _, _, _, _, _ => none
  | n + 1, l0, l1, l2, l3, x => if (24 : Int32) ≤ l3 then (if l2 = 0 ∨ l2 = 1 then (some ((l2, x))) else none) else (if (x.1 l0 1) ≤ l3 then (if l2 = 0 ∨ l2 = 1 then (some ((l2, x))) else none) else (if g_ok l3 24 = true then (if (x.1 (l0 + 1) l3.toNatClampNeg) = 0 then (f_X3_shift_4 n l0 l1 l2 (l3 + (1 : Int32)) x) else (if 0 ≤ (lg_cmp (((x.1 (l0 + 1) l3.toNatClampNeg).toInt64) + l1.toInt64) (1 : Int64)) then (if (lg_cmp (((x.1 (l0 + 1) l3.toNatClampNeg).toInt64) + l1.toInt64) (40 : Int64)) ≤ 0 then (f_X3_shift_75 (f_X3_shift_4 n) l0 l1 l2 l3 (x.1 (l0 + 1) l3.toNatClampNeg) ((((x.1 (l0 + 1) l3.toNatClampNeg).toInt64) + l1.toInt64).toInt32) l3 (l0 + 1) x) else (f_X3_shift_75 (f_X3_shift_4 n) l0 l1 l2 l3 (x.1 (l0 + 1) l3.toNatClampNeg) (40 : Int32) l3 (l0 + 1) x)) else (f_X3_shift_75 (f_X3_shift_4 n) l0 l1 l2 l3 (x.1 (l0 + 1) l3.toNatClampNeg) (1 : Int32) l3 (l0 + 1) x))) else none))
def f_X3_shift (t : Nat) (p1 : Int32) (x : CS) : Option (Int32 × CS) :=
  f_X3_shift_4 g_fuel t p1 (0 : Int32) (0 : Int32) x
def f_X1_changes_74 (l4 : Nat) (s0 : Int32) (x : CS) : Option (Int32 × CS) :=
  if (x.1 l4 1) = s0 then (if s0 = 0 ∨ s0 = 1 then (some (((0 : Int32), g_wi x l4 1 s0))) else none) else (if s0 = 0 ∨ s0 = 1 then (some (((1 : Int32), g_wi x l4 1 s0))) else none)
def f_X1_changes (p1 : Nat) (p2 : Nat) (p3 : Nat) (x : CS) : Option (Int32 × CS) :=
  (f_X9_word p2 (x.1 p3 1) x).bind fun q1 => if kd (q1) = 10 then (if (x.2 p3 0) = 11 then ((f_X1_reckon p1 p2 (x.1 p3 2) (x.1 p3 3) x).bind fun q5 => (f_X3_shift (q1 + 1) q5.1 q5.2).bind fun q6 => if q6.1 = 0 then (if q6.1 = 0 ∨ q6.1 = 1 then (some ((q6.1, q6.2))) else none) else ((f_X1_measure p1 q1 q6.2).bind fun q9 => if q6.1 = 0 ∨ q6.1 = 1 then (some ((q6.1, q9))) else none)) else (if (x.2 p3 0) = 9 then (f_X1_changes_74 q1 (1 : Int32) x) else (f_X1_changes_74 q1 (0 : Int32) x))) else none
def f_X1_passOne_5  : Nat → Nat → Nat → Int32 → Int32 → CS → Option (Int32 × CS)
  | 0, _, _, _, _, _ => none
  | n + 1, l1, l2, l3, l4, x => if (x.1 l1 4) ≤ l4 then (some ((l3, g_wi (g_wi x l2 3 ((x.1 l2 3) + (1 : Int32))) l2 4 (((g_wi x l2 3 ((x.1 l2 3) + (1 : Int32))).1 l2 4) + l3)))) else ((f_X5_rule l1 l4 x).bind fun q2 => if kd (q2) = 8 then ((f_X1_holds l1 l2 q2 x).bind fun q4 => if q4.1 = 0 then (f_X1_passOne_5 n l1 l2 l3 (l4 + (1 : Int32)) q4.2) else ((f_X1_changes l1 l2 q2 q4.2).bind fun q6 => if q6.1 = 0 then (f_X1_passOne_5 n l1 l2 l3 (l4 + (1 : Int32)) q6.2) else (f_X1_passOne_5 n l1 l2 (l3 + (1 : Int32)) (l4 + (1 : Int32)) q6.2))) else none)
def f_X1_passOne (p1 : Nat) (p2 : Nat) (x : CS) : Option (Int32 × CS) :=
  f_X1_passOne_5 g_fuel p1 p2 (0 : Int32) (0 : Int32) x
def f_X5_clear (t : Nat) (x : CS) : Option (CS) :=
  some (g_wi (g_wi (g_wi (g_wi x t 4 (0 : Int32)) t 5 (0 : Int32)) t 6 (4 : Int32)) t 7 (6 : Int32))
def f_X9_clear (t : Nat) (x : CS) : Option (CS) :=
  some (g_wi (g_wi (g_wi x t 2 (0 : Int32)) t 3 (0 : Int32)) t 4 (0 : Int32))
def f_X8_sign (p1 : Int32) (x : CS) : Option (Nat) :=
  if p1 < 0 then (some (45)) else (if (401 : Int32) ≤ p1 then (some (45)) else (if g_ok p1 401 = true then (some (x.2 4 p1.toNatClampNeg)) else none))
def f_X8_place (p1 : Int32) (x : CS) : Option (Int32) :=
  if p1 < 0 then (some ((0 : Int32))) else (if (401 : Int32) ≤ p1 then (some ((0 : Int32))) else (if g_ok p1 401 = true then (some (x.1 5 p1.toNatClampNeg)) else none))
def f_X8_value (p1 : Int32) (x : CS) : Option (Int32) :=
  if p1 < 0 then (some ((0 : Int32))) else (if (401 : Int32) ≤ p1 then (some ((0 : Int32))) else (if g_ok p1 401 = true then (some (x.1 7 p1.toNatClampNeg)) else none))
def f_X2_step (x : CS) : Option (CS) :=
  if (x.1 162 8) = (1 : Int32) then (some (x)) else ((f_X8_sign ((g_wi x 162 4 ((x.1 162 4) + (1 : Int32))).1 162 4) (g_wi x 162 4 ((x.1 162 4) + (1 : Int32)))).bind fun q2 => (f_X8_place ((g_wr (g_wi x 162 4 ((x.1 162 4) + (1 : Int32))) 162 5 q2).1 162 4) (g_wr (g_wi x 162 4 ((x.1 162 4) + (1 : Int32))) 162 5 q2)).bind fun q3 => (f_X8_value ((g_wi (g_wr (g_wi x 162 4 ((x.1 162 4) + (1 : Int32))) 162 5 q2) 162 6 q3).1 162 4) (g_wi (g_wr (g_wi x 162 4 ((x.1 162 4) + (1 : Int32))) 162 5 q2) 162 6 q3)).bind fun q4 => some (g_wi (g_wi (g_wr (g_wi x 162 4 ((x.1 162 4) + (1 : Int32))) 162 5 q2) 162 6 q3) 162 7 q4))
def f_X2_refuse (x : CS) : Option (CS) :=
  if (x.1 162 8) = (1 : Int32) then (some (x)) else (some (g_wr (g_wi (g_wi x 162 8 (1 : Int32)) 162 9 ((g_wi x 162 8 (1 : Int32)).1 162 6)) 162 5 45))
def f_X2_wordCalled_2 (x : CS) : Nat → Int32 → Int32 → Option (Int32)
  | 0, _, _ => none
  | n + 1, l1, l2 => if kd (x.2 162 2) = 9 then (if (x.1 (x.2 162 2) 2) ≤ l2 then (some ((-1 : Int32))) else (if (8 : Int32) ≤ l2 then (some ((-1 : Int32))) else (if g_ok l2 8 = true then (if (x.1 163 l2.toNatClampNeg) = l1 then (some (l2)) else (f_X2_wordCalled_2 x n l1 (l2 + (1 : Int32)))) else none))) else none
def f_X2_wordCalled (p1 : Int32) (x : CS) : Option (Int32) :=
  f_X2_wordCalled_2 x g_fuel p1 (0 : Int32)
def f_X2_blame (p1 : Int32) (x : CS) : Option (CS) :=
  if (x.1 162 8) = 0 then (some (g_wi (g_wi x 162 8 p1) 162 9 ((g_wi x 162 8 p1).1 162 6))) else (some (x))
def f_X9_addWord (t : Nat) (x : CS) : Option (CS) :=
  if (8 : Int32) ≤ (x.1 t 2) then (some (x)) else ((f_X9_word t (x.1 t 2) x).bind fun q2 => if kd (q2) = 10 then (some (g_wi (g_wi (g_wi (g_wi x (q2 + 1) 1 (0 : Int32)) q2 1 (0 : Int32)) q2 2 (999 : Int32)) t 2 (((g_wi (g_wi (g_wi x (q2 + 1) 1 (0 : Int32)) q2 1 (0 : Int32)) q2 2 (999 : Int32)).1 t 2) + (1 : Int32)))) else none)
def f_X2_readNewName_90 (x : CS) : Option (CS) :=
  (f_X2_step x).bind fun q13 => some (q13)
def f_X2_readNewName_32 (x : CS) : Option (CS) :=
  if kd (x.2 162 2) = 9 then (if (x.1 (x.2 162 2) 2) < (8 : Int32) then (if (8 : Int32) ≤ (x.1 (x.2 162 2) 2) then (f_X2_readNewName_90 x) else (if g_ok (x.1 (x.2 162 2) 2) 8 = true then (if kd ((g_wi x 163 (x.1 (x.2 162 2) 2).toNatClampNeg (x.1 162 7)).2 162 2) = 9 then ((f_X9_addWord ((g_wi x 163 (x.1 (x.2 162 2) 2).toNatClampNeg (x.1 162 7)).2 162 2) (g_wi x 163 (x.1 (x.2 162 2) 2).toNatClampNeg (x.1 162 7))).bind fun q11 => f_X2_readNewName_90 q11) else none) else none)) else ((f_X2_blame (4 : Int32) x).bind fun q12 => f_X2_readNewName_90 q12)) else none
def f_X2_readNewName (x : CS) : Option (CS) :=
  if (x.2 162 5) = 41 then ((f_X2_wordCalled (x.1 162 7) x).bind fun q2 => if q2 = (-1 : Int32) then (f_X2_readNewName_32 x) else ((f_X2_blame (2 : Int32) x).bind fun q4 => f_X2_readNewName_32 q4)) else ((f_X2_refuse x).bind fun q5 => some (q5))
def f_X2_expect (p1 : Nat) (x : CS) : Option (CS) :=
  if (x.2 162 5) = p1 then ((f_X2_step x).bind fun q3 => some (q3)) else ((f_X2_refuse x).bind fun q2 => some (q2))
def f_X2_readNumber_36 (l3 : Int32) (x : CS) : Option (Int32 × CS) :=
  (f_X2_step x).bind fun q6 => some ((l3, q6))
def f_X2_readNumber_31 (l3 : Int32) (x : CS) : Option (Int32 × CS) :=
  (f_X2_blame (5 : Int32) x).bind fun q5 => f_X2_readNumber_36 l3 q5
def f_X2_readNumber (p1 : Int32) (p2 : Int32) (x : CS) : Option (Int32 × CS) :=
  if (x.2 162 5) = 42 then (if (x.1 162 7) < p1 then (f_X2_readNumber_31 (x.1 162 7) x) else (if (x.1 162 7) ≤ p2 then (f_X2_readNumber_36 (x.1 162 7) x) else (f_X2_readNumber_31 (x.1 162 7) x))) else ((f_X2_refuse x).bind fun q4 => some (((0 : Int32), q4)))
def f_X3_add (t : Nat) (p1 : Int32) (x : CS) : Option (CS) :=
  if (x.1 t 1) < 0 then (some (x)) else (if (24 : Int32) ≤ (x.1 t 1) then (some (x)) else (if g_ok (x.1 t 1) 24 = true then (some (g_wi (g_wi x (t + 1) (x.1 t 1).toNatClampNeg p1) t 1 (((g_wi x (t + 1) (x.1 t 1).toNatClampNeg p1).1 t 1) + (1 : Int32)))) else none))
def f_X3_addGlide_3  : Nat → Nat → Int32 → Int32 → Int32 → Int32 → CS → Option (CS)
  | 0, _, _, _, _, _, _ => none
  | n + 1, l0, l1, l2, l3, l4, x => if l3 ≤ l4 then (some (x)) else (if (9 : Int32) ≤ l4 then (some (x)) else ((f_X12_quotient ((l2 - l1) * l4) l3).bind fun q3 => (f_X3_add l0 (l1 + q3) x).bind fun q4 => f_X3_addGlide_3 n l0 l1 l2 l3 (l4 + (1 : Int32)) q4))
def f_X3_addGlide (t : Nat) (p1 : Int32) (p2 : Int32) (p3 : Int32) (x : CS) : Option (CS) :=
  f_X3_addGlide_3 g_fuel t p1 p2 p3 (0 : Int32) x
def f_X2_readPart_98 (l1 : Nat) (l2 : Int32) (l3 : Int32) (x : CS) : Option (CS) :=
  (f_X2_expect 3 x).bind fun q13 => (f_J9_min_7cf53 (9 : Int32) ((24 : Int32) - (q13.1 l1 1))).bind fun q14 => (f_X2_readNumber (1 : Int32) q14 q13).bind fun q15 => (f_X3_addGlide l1 l2 l3 q15.1 q15.2).bind fun q16 => some (q16)
def f_X2_readPart (x : CS) : Option (CS) :=
  if kd (x.2 162 2) = 9 then ((f_X9_word (x.2 162 2) ((x.1 (x.2 162 2) 2) - (1 : Int32)) x).bind fun q2 => if kd (q2) = 10 then (if (x.2 162 5) = 2 then ((f_X2_step x).bind fun q11 => (f_X2_readNumber (1 : Int32) (40 : Int32) q11).bind fun q12 => f_X2_readPart_98 (q2 + 1) q12.1 q12.1 q12.2) else (if (x.2 162 5) = 4 then ((f_X2_step x).bind fun q7 => (f_X2_readNumber (1 : Int32) (40 : Int32) q7).bind fun q8 => (f_X2_expect 5 q8.2).bind fun q9 => (f_X2_readNumber (1 : Int32) (40 : Int32) q9).bind fun q10 => f_X2_readPart_98 (q2 + 1) q8.1 q10.1 q10.2) else ((f_X2_expect 6 x).bind fun q6 => f_X2_readPart_98 (q2 + 1) (0 : Int32) (0 : Int32) q6))) else none) else none
def f_X2_readWord_21  : Nat → Int32 → CS → Option (CS)
  | 0, _, _ => none
  | n + 1, l1, x => if (400 : Int32) ≤ l1 then (some (x)) else (if (x.2 162 5) = 31 then ((f_X2_step x).bind fun q7 => (f_X2_readPart q7).bind fun q8 => f_X2_readWord_21 n (l1 + (1 : Int32)) q8) else (some (x)))
def f_X2_readWord (x : CS) : Option (CS) :=
  (f_X2_step x).bind fun q1 => (f_X2_readNewName q1).bind fun q2 => (f_X2_expect 1 q2).bind fun q3 => (f_X2_readPart q3).bind fun q4 => f_X2_readWord_21 g_fuel (0 : Int32) q4
def f_X2_readKnownName_35 (l1 : Int32) (x : CS) : Option (Int32 × CS) :=
  (f_X2_step x).bind fun q6 => some ((l1, q6))
def f_X2_readKnownName (x : CS) : Option (Int32 × CS) :=
  if (x.2 162 5) = 41 then ((f_X2_wordCalled (x.1 162 7) x).bind fun q2 => if q2 = (-1 : Int32) then ((f_X2_blame (3 : Int32) x).bind fun q4 => f_X2_readKnownName_35 q2 q4) else (f_X2_readKnownName_35 q2 x)) else ((f_X2_refuse x).bind fun q5 => some (((-1 : Int32), q5)))
def f_X5_addSign (t : Nat) (p1 : Nat) (p2 : Int32) (x : CS) : Option (CS) :=
  if (x.1 t 5) < 0 then (some (x)) else (if (400 : Int32) ≤ (x.1 t 5) then (some (x)) else (if (400 : Int32) ≤ (x.1 t 5) then (some (x)) else (if g_ok (x.1 t 5) 400 = true then (if p1 < 46 then (if g_ok ((g_wr x (t + 3) (x.1 t 5).toNatClampNeg p1).1 t 5) 400 = true then (some (g_wi (g_wi (g_wr x (t + 3) (x.1 t 5).toNatClampNeg p1) (t + 4) ((g_wr x (t + 3) (x.1 t 5).toNatClampNeg p1).1 t 5).toNatClampNeg p2) t 5 (((g_wi (g_wr x (t + 3) (x.1 t 5).toNatClampNeg p1) (t + 4) ((g_wr x (t + 3) (x.1 t 5).toNatClampNeg p1).1 t 5).toNatClampNeg p2).1 t 5) + (1 : Int32)))) else none) else none) else none)))
def f_X2_readProduct_34 (val : Int32 → CS → Option CS) (k7 : Int32 → Int32 → CS → Option (CS)) (l1 : Int32) (l2 : Int32) (x : CS) : Option (CS) :=
  (f_X2_step x).bind fun q5 => (val l1 q5).bind fun q6 => if kd (q6.2 162 1) = 7 then ((f_X5_addSign (q6.2 162 1) (x.2 162 5) (0 : Int32) q6).bind fun q8 => k7 l1 (l2 + (1 : Int32)) q8) else none
def f_X2_readProduct_7 (val : Int32 → CS → Option CS) : Nat → Int32 → Int32 → CS → Option (CS)
  | 0, _, _, _ => none
  | n + 1, l1, l2, x => if (400 : Int32) ≤ l2 then (some (x)) else (if (x.2 162 5) = 34 then (f_X2_readProduct_34 val (f_X2_readProduct_7 val n) l1 l2 x) else (if (x.2 162 5) = 35 then (f_X2_readProduct_34 val (f_X2_readProduct_7 val n) l1 l2 x) else (some (x))))
def f_X2_readProduct (val : Int32 → CS → Option CS) (p1 : Int32) (x : CS) : Option (CS) :=
  (val p1 x).bind fun q1 => f_X2_readProduct_7 val g_fuel p1 (0 : Int32) q1
def f_X2_readSum_34 (val : Int32 → CS → Option CS) (k7 : Int32 → Int32 → CS → Option (CS)) (l1 : Int32) (l2 : Int32) (x : CS) : Option (CS) :=
  (f_X2_step x).bind fun q5 => (f_X2_readProduct val l1 q5).bind fun q6 => if kd (q6.2 162 1) = 7 then ((f_X5_addSign (q6.2 162 1) (x.2 162 5) (0 : Int32) q6).bind fun q8 => k7 l1 (l2 + (1 : Int32)) q8) else none
def f_X2_readSum_7 (val : Int32 → CS → Option CS) : Nat → Int32 → Int32 → CS → Option (CS)
  | 0, _, _, _ => none
  | n + 1, l1, l2, x => if (400 : Int32) ≤ l2 then (some (x)) else (if (x.2 162 5) = 32 then (f_X2_readSum_34 val (f_X2_readSum_7 val n) l1 l2 x) else (if (x.2 162 5) = 33 then (f_X2_readSum_34 val (f_X2_readSum_7 val n) l1 l2 x) else (some (x))))
def f_X2_readSum (val : Int32 → CS → Option CS) (p1 : Int32) (x : CS) : Option (CS) :=
  (f_X2_readProduct val p1 x).bind fun q1 => f_X2_readSum_7 val g_fuel p1 (0 : Int32) q1
def f_X2_requireDepth (p1 : Int32) (x : CS) : Option (CS) :=
  if p1 < (8 : Int32) then (some (x)) else ((f_X2_refuse x).bind fun q2 => some (q2))
def f_X2_readChoice_23 (val : Int32 → CS → Option CS) (l1 : Int32) (l2 : Nat) (x : CS) : Option (CS) :=
  (f_X2_requireDepth l1 x).bind fun q4 => (f_X2_step q4).bind fun q5 => (f_X2_readSum val (l1 + (1 : Int32)) q5).bind fun q6 => (f_X2_expect 31 q6).bind fun q7 => (f_X2_readSum val (l1 + (1 : Int32)) q7).bind fun q8 => (f_X2_expect 27 q8).bind fun q9 => if kd (q9.2 162 1) = 7 then ((f_X5_addSign (q9.2 162 1) l2 (0 : Int32) q9).bind fun q11 => some (q11)) else none
def f_X2_readChoice (val : Int32 → CS → Option CS) (p1 : Int32) (x : CS) : Option (CS) :=
  (f_X2_step x).bind fun q1 => if (q1.2 162 5) = 26 then (f_X2_readChoice_23 val p1 (x.2 162 5) q1) else ((f_X2_refuse q1).bind fun q3 => f_X2_readChoice_23 val p1 (x.2 162 5) q3)
def f_X2_readValue_185 (val : Int32 → CS → Option CS) (x : CS) : Option (CS) :=
  if kd (x.2 162 1) = 7 then ((f_X5_addSign (x.2 162 1) (x.2 162 5) (x.1 162 7) x).bind fun q27 => (f_X2_step q27).bind fun q28 => some (q28)) else none
def f_X2_readValue_124 (val : Int32 → CS → Option CS) (x : CS) : Option (CS) :=
  (f_X2_step x).bind fun q21 => (f_X2_expect 18 q21).bind fun q22 => if kd (q22.2 162 1) = 7 then ((f_X2_readKnownName q22).bind fun q24 => (f_X5_addSign (q22.2 162 1) (x.2 162 5) q24.1 q24.2).bind fun q25 => some (q25)) else none
def f_X2_readValue_96 (val : Int32 → CS → Option CS) (l1 : Int32) (x : CS) : Option (CS) :=
  (f_X2_readChoice val l1 x).bind fun q20 => some (q20)
def f_X2_readValue : Nat → Int32 → CS → Option (CS)
  | 0, _, _ => none
  | n + 1, p1, x => if (x.2 162 5) = 33 then ((f_X2_requireDepth p1 x).bind fun q15 => (f_X2_step q15).bind fun q16 => (f_X2_readValue n (p1 + (1 : Int32)) q16).bind fun q17 => if kd (q17.2 162 1) = 7 then ((f_X5_addSign (q17.2 162 1) 43 (0 : Int32) q17).bind fun q19 => some (q19)) else none) else (if (x.2 162 5) = 26 then ((f_X2_requireDepth p1 x).bind fun q11 => (f_X2_step q11).bind fun q12 => (f_X2_readSum (f_X2_readValue n) (p1 + (1 : Int32)) q12).bind fun q13 => (f_X2_expect 27 q13).bind fun q14 => some (q14)) else (if (x.2 162 5) = 24 then (f_X2_readValue_96 (f_X2_readValue n) p1 x) else (if (x.2 162 5) = 25 then (f_X2_readValue_96 (f_X2_readValue n) p1 x) else (if (x.2 162 5) = 16 then (f_X2_readValue_124 (f_X2_readValue n) x) else (if (x.2 162 5) = 17 then (f_X2_readValue_124 (f_X2_readValue n) x) else (if (x.2 162 5) = 42 then (f_X2_readValue_185 (f_X2_readValue n) x) else (if (x.2 162 5) = 14 then (f_X2_readValue_185 (f_X2_readValue n) x) else (if (x.2 162 5) = 15 then (f_X2_readValue_185 (f_X2_readValue n) x) else ((f_X2_refuse x).bind fun q10 => some (q10))))))))))
def f_X2_readBoth_7 (sgl : Int32 → CS → Option CS) : Nat → Int32 → Int32 → CS → Option (CS)
  | 0, _, _, _ => none
  | n + 1, l1, l2, x => if (400 : Int32) ≤ l2 then (some (x)) else (if (x.2 162 5) = 22 then ((f_X2_step x).bind fun q4 => (sgl l1 q4).bind fun q5 => if kd (q5.2 162 1) = 7 then ((f_X5_addSign (q5.2 162 1) 22 (0 : Int32) q5).bind fun q7 => f_X2_readBoth_7 sgl n l1 (l2 + (1 : Int32)) q7) else none) else (some (x)))
def f_X2_readBoth (sgl : Int32 → CS → Option CS) (p1 : Int32) (x : CS) : Option (CS) :=
  (sgl p1 x).bind fun q1 => f_X2_readBoth_7 sgl g_fuel p1 (0 : Int32) q1
def f_X2_readTest_7 (sgl : Int32 → CS → Option CS) : Nat → Int32 → Int32 → CS → Option (CS)
  | 0, _, _, _ => none
  | n + 1, l1, l2, x => if (400 : Int32) ≤ l2 then (some (x)) else (if (x.2 162 5) = 23 then ((f_X2_step x).bind fun q4 => (f_X2_readBoth sgl l1 q4).bind fun q5 => if kd (q5.2 162 1) = 7 then ((f_X5_addSign (q5.2 162 1) 23 (0 : Int32) q5).bind fun q7 => f_X2_readTest_7 sgl n l1 (l2 + (1 : Int32)) q7) else none) else (some (x)))
def f_X2_readTest (sgl : Int32 → CS → Option CS) (p1 : Int32) (x : CS) : Option (CS) :=
  (f_X2_readBoth sgl p1 x).bind fun q1 => f_X2_readTest_7 sgl g_fuel p1 (0 : Int32) q1
def f_X2_isComparison (x : CS) : Option (Int32) :=
  if (x.2 162 5) = 36 then (some ((1 : Int32))) else (if (x.2 162 5) = 37 then (some ((1 : Int32))) else (if (x.2 162 5) = 38 then (some ((1 : Int32))) else (if (x.2 162 5) = 39 then (some ((1 : Int32))) else (if (x.2 162 5) = 40 then (some ((1 : Int32))) else (some ((0 : Int32)))))))
def f_X2_readSingle_148 (sgl : Int32 → CS → Option CS) (l1 : Int32) (l2 : Nat) (x : CS) : Option (CS) :=
  (f_X2_readSum (f_X2_readValue 12) l1 x).bind fun q23 => if kd (q23.2 162 1) = 7 then ((f_X5_addSign (q23.2 162 1) l2 (0 : Int32) q23).bind fun q25 => some (q25)) else none
def f_X2_readSingle_96 (sgl : Int32 → CS → Option CS) (x : CS) : Option (CS) :=
  (f_X2_step x).bind fun q19 => if kd (q19.2 162 1) = 7 then ((f_X2_readKnownName q19).bind fun q21 => (f_X5_addSign (q19.2 162 1) (x.2 162 5) q21.1 q21.2).bind fun q22 => some (q22)) else none
def f_X2_readSingle : Nat → Int32 → CS → Option (CS)
  | 0, _, _ => none
  | n + 1, p1, x => if (x.2 162 5) = 21 then ((f_X2_requireDepth p1 x).bind fun q14 => (f_X2_step q14).bind fun q15 => (f_X2_readSingle n (p1 + (1 : Int32)) q15).bind fun q16 => if kd (q16.2 162 1) = 7 then ((f_X5_addSign (q16.2 162 1) 21 (0 : Int32) q16).bind fun q18 => some (q18)) else none) else (if (x.2 162 5) = 28 then ((f_X2_requireDepth p1 x).bind fun q10 => (f_X2_step q10).bind fun q11 => (f_X2_readTest (f_X2_readSingle n) (p1 + (1 : Int32)) q11).bind fun q12 => (f_X2_expect 29 q12).bind fun q13 => some (q13)) else (if (x.2 162 5) = 19 then (f_X2_readSingle_96 (f_X2_readSingle n) x) else (if (x.2 162 5) = 20 then (f_X2_readSingle_96 (f_X2_readSingle n) x) else ((f_X2_readSum (f_X2_readValue 12) p1 x).bind fun q5 => (f_X2_isComparison q5).bind fun q6 => if q6 = 0 then ((f_X2_refuse q5).bind fun q8 => f_X2_readSingle_148 (f_X2_readSingle n) p1 (q5.2 162 5) q8) else ((f_X2_step q5).bind fun q9 => f_X2_readSingle_148 (f_X2_readSingle n) p1 (q5.2 162 5) q9)))))
def f_X5_addRule (t : Nat) (p1 : Nat) (p2 : Int32) (p3 : Int32) (p4 : Int32) (x : CS) : Option (CS) :=
  if (16 : Int32) ≤ (x.1 t 4) then (some (x)) else ((f_X5_rule t (x.1 t 4) x).bind fun q2 => if kd (q2) = 8 then (some (g_wi (g_wi (g_wi (g_wi (g_wi (g_wr x q2 0 p1) q2 1 p2) q2 2 p3) q2 3 p4) q2 4 ((g_wi (g_wi (g_wi (g_wr x q2 0 p1) q2 1 p2) q2 2 p3) q2 3 p4).1 t 5)) t 4 (((g_wi (g_wi (g_wi (g_wi (g_wr x q2 0 p1) q2 1 p2) q2 2 p3) q2 3 p4) q2 4 ((g_wi (g_wi (g_wi (g_wr x q2 0 p1) q2 1 p2) q2 2 p3) q2 3 p4).1 t 5)).1 t 4) + (1 : Int32)))) else none)
def f_X2_readRule_121 (l1 : Nat) (l2 : Int32) (l3 : Int32) (l4 : Int32) (x : CS) : Option (CS) :=
  if kd (x.2 162 1) = 7 then ((f_X5_addRule (x.2 162 1) l1 l2 l3 l4 x).bind fun q19 => some (q19)) else none
def f_X2_readRule_93 (l1 : Nat) (l2 : Int32) (l3 : Int32) (x : CS) : Option (CS) :=
  if kd (x.2 162 1) = 7 then (if (x.2 162 5) = 13 then ((f_X2_step x).bind fun q16 => (f_X2_readTest (f_X2_readSingle 12) (0 : Int32) q16).bind fun q17 => f_X2_readRule_121 l1 l2 l3 (x.1 (x.2 162 1) 5) q17) else (f_X2_readRule_121 l1 l2 l3 (x.1 (x.2 162 1) 5) x)) else none
def f_X2_readRule_52 (x : CS) : Option (CS) :=
  (f_X2_step x).bind fun q8 => (f_X2_readKnownName q8).bind fun q9 => if kd (q9.2.2 162 1) = 7 then (if (x.2 162 5) = 11 then ((f_X2_expect 12 q9.2).bind fun q12 => (f_X2_readSum (f_X2_readValue 12) (0 : Int32) q12).bind fun q13 => f_X2_readRule_93 (x.2 162 5) q9.1 (q9.2.1 (q9.2.2 162 1) 5) q13) else (f_X2_readRule_93 (x.2 162 5) q9.1 (q9.2.1 (q9.2.2 162 1) 5) q9.2)) else none
def f_X2_readRule_35 (x : CS) : Option (CS) :=
  if kd (x.2 162 1) = 7 then (if (x.1 (x.2 162 1) 4) < (16 : Int32) then (f_X2_readRule_52 x) else ((f_X2_blame (4 : Int32) x).bind fun q7 => f_X2_readRule_52 q7)) else none
def f_X2_readRule (x : CS) : Option (CS) :=
  if (x.2 162 5) = 9 then (f_X2_readRule_35 x) else (if (x.2 162 5) = 10 then (f_X2_readRule_35 x) else (if (x.2 162 5) = 11 then (f_X2_readRule_35 x) else ((f_X2_refuse x).bind fun q4 => some (q4))))
def f_X2_readLanguage_128 (k20 : Int32 → CS → Option (CS)) (l1 : Int32) (x : CS) : Option (CS) :=
  (f_X2_expect 30 x).bind fun q20 => k20 (l1 + (1 : Int32)) q20
def f_X2_readLanguage_20  : Nat → Int32 → CS → Option (CS)
  | 0, _, _ => none
  | n + 1, l1, x => if (400 : Int32) ≤ l1 then (some (x)) else (if (x.1 162 8) = (1 : Int32) then (some (x)) else (if (x.2 162 5) = 44 then (some (x)) else (if (x.2 162 5) = 0 then ((f_X2_readWord x).bind fun q19 => f_X2_readLanguage_128 (f_X2_readLanguage_20 n) l1 q19) else (if (x.2 162 5) = 7 then ((f_X2_step x).bind fun q16 => if kd (q16.2 162 1) = 7 then ((f_X2_readNumber (0 : Int32) (20 : Int32) q16).bind fun q18 => f_X2_readLanguage_128 (f_X2_readLanguage_20 n) l1 (g_wi q18.2 (q16.2 162 1) 6 q18.1)) else none) else (if (x.2 162 5) = 8 then ((f_X2_step x).bind fun q13 => if kd (q13.2 162 1) = 7 then ((f_X2_readNumber (0 : Int32) (99 : Int32) q13).bind fun q15 => f_X2_readLanguage_128 (f_X2_readLanguage_20 n) l1 (g_wi q15.2 (q13.2 162 1) 7 q15.1)) else none) else ((f_X2_readRule x).bind fun q12 => f_X2_readLanguage_128 (f_X2_readLanguage_20 n) l1 q12))))))
def f_X2_readLanguage (x : CS) : Option (CS) :=
  if kd (x.2 162 1) = 7 then ((f_X5_clear (x.2 162 1) x).bind fun q2 => if kd (q2.2 162 2) = 9 then ((f_X9_clear (q2.2 162 2) q2).bind fun q4 => (f_X2_step q4).bind fun q5 => f_X2_readLanguage_20 g_fuel (0 : Int32) q5) else none) else none
def f_X3_contour (t : Nat) (p1 : Int32) (x : CS) : Option (Int32) :=
  if p1 < 0 then (some ((0 : Int32))) else (if p1 < ((x.1 t 1) - (1 : Int32)) then ((f_X3_pitch t p1 x).bind fun q3 => (f_X3_pitch t (p1 + (1 : Int32)) x).bind fun q4 => if q4 ≤ q3 then (if q3 ≤ q4 then (some ((0 : Int32))) else (some ((-1 : Int32)))) else (some ((1 : Int32)))) else (some ((0 : Int32))))
def f_X3_countSilent_4 (x : CS) : Nat → Nat → Int32 → Int32 → Option (Int32)
  | 0, _, _, _ => none
  | n + 1, l0, l1, l2 => if (x.1 l0 1) ≤ l2 then (some (l1)) else ((f_X3_pitch l0 l2 x).bind fun q2 => if q2 = 0 then (f_X3_countSilent_4 x n l0 (l1 + (1 : Int32)) (l2 + (1 : Int32))) else (f_X3_countSilent_4 x n l0 l1 (l2 + (1 : Int32))))
def f_X3_countSilent (t : Nat) (x : CS) : Option (Int32) :=
  f_X3_countSilent_4 x g_fuel t (0 : Int32) (0 : Int32)
def f_X3_copyFrom_10  : Nat → Nat → Nat → Int32 → CS → Option (CS)
  | 0, _, _, _, _ => none
  | n + 1, l0, l1, l2, x => if (24 : Int32) ≤ l2 then (some (x)) else ((f_X3_pitch l1 l2 x).bind fun q2 => if g_ok l2 24 = true then (f_X3_copyFrom_10 n l0 l1 (l2 + (1 : Int32)) (g_wi x (l0 + 1) l2.toNatClampNeg q2)) else none)
def f_X3_copyFrom (t : Nat) (p1 : Nat) (x : CS) : Option (CS) :=
  f_X3_copyFrom_10 g_fuel t p1 (0 : Int32) (g_wi x t 1 (x.1 p1 1))
def f_X3_traceContour_10  : Nat → Nat → Nat → Int32 → CS → Option (CS)
  | 0, _, _, _, _ => none
  | n + 1, l0, l1, l2, x => if (24 : Int32) ≤ l2 then (some (x)) else ((f_X3_contour l1 l2 x).bind fun q2 => if g_ok l2 24 = true then (f_X3_traceContour_10 n l0 l1 (l2 + (1 : Int32)) (g_wi x (l0 + 1) l2.toNatClampNeg q2)) else none)
def f_X3_traceContour (t : Nat) (p1 : Nat) (x : CS) : Option (CS) :=
  f_X3_traceContour_10 g_fuel t p1 (0 : Int32) (g_wi x t 1 (x.1 p1 1))
def f_X7_append_3  : Nat → Int32 → Int32 → CS → Option (CS)
  | 0, _, _, _ => none
  | n + 1, l1, l2, x => if l2 < 0 then (some (x)) else (if (x.1 1 1) < 0 then (f_X7_append_3 n l1 (l2 + (-8 : Int32)) x) else (if (2000 : Int32) ≤ (x.1 1 1) then (f_X7_append_3 n l1 (l2 + (-8 : Int32)) x) else (if g_ok (x.1 1 1) 2000 = true then (f_X7_append_3 n l1 (l2 + (-8 : Int32)) (g_wi (g_wi x 2 (x.1 1 1).toNatClampNeg (vp_nar .char (((((l1.toUInt32 >>> (l2.toUInt32 &&& Int32.toUInt32 31)).toInt32) &&& (255 : Int32)).toUInt32 % 65536).toInt32))) 1 1 (((g_wi x 2 (x.1 1 1).toNatClampNeg (vp_nar .char (((((l1.toUInt32 >>> (l2.toUInt32 &&& Int32.toUInt32 31)).toInt32) &&& (255 : Int32)).toUInt32 % 65536).toInt32))).1 1 1) + (1 : Int32)))) else none)))
def f_X7_append (p1 : Int32) (x : CS) : Option (CS) :=
  f_X7_append_3 g_fuel p1 (24 : Int32) x
def f_X7_byteAt (p1 : Int32) (x : CS) : Option (Int32) :=
  if p1 < 0 then (some ((-1 : Int32))) else (if (x.1 1 1) ≤ p1 then (some ((-1 : Int32))) else (if (2000 : Int32) ≤ p1 then (some ((-1 : Int32))) else (if g_ok p1 2000 = true then (some (x.1 2 p1.toNatClampNeg)) else none)))
def f_X7_isLetter (p1 : Int32) (x : CS) : Option (Int32) :=
  (f_X7_byteAt p1 x).bind fun q1 => if q1 < (97 : Int32) then (some ((0 : Int32))) else (if (122 : Int32) < q1 then (some ((0 : Int32))) else (some ((1 : Int32))))
def f_X7_isDigit (p1 : Int32) (x : CS) : Option (Int32) :=
  (f_X7_byteAt p1 x).bind fun q1 => if q1 < (48 : Int32) then (some ((0 : Int32))) else (if (57 : Int32) < q1 then (some ((0 : Int32))) else (some ((1 : Int32))))
def f_X7_behindBlanks_2 (x : CS) : Nat → Int32 → Option (Int32)
  | 0, _ => none
  | n + 1, l2 => if (x.1 1 1) ≤ l2 then (some (l2)) else ((f_X7_byteAt l2 x).bind fun q2 => if q2 = (32 : Int32) then (f_X7_behindBlanks_2 x n (l2 + (1 : Int32))) else ((f_X7_byteAt l2 x).bind fun q4 => if q4 = (10 : Int32) then (f_X7_behindBlanks_2 x n (l2 + (1 : Int32))) else (some (l2))))
def f_X7_behindBlanks (p1 : Int32) (x : CS) : Option (Int32) :=
  f_X7_behindBlanks_2 x g_fuel p1
def f_X7_spells_2 (x : CS) : Nat → Int32 → Nat → Int32 → Option (Int32)
  | 0, _, _, _ => none
  | n + 1, l1, l2, l3 => if l2 < 72 then ((f_J0_length_8abf5 l2).bind fun q1 => if q1 ≤ l3 then (some ((1 : Int32))) else ((f_X7_byteAt (l1 + l3) x).bind fun q3 => if l2 < 72 then ((f_J0_charAt_5068e l2 l3).bind fun q4 => if q3 = q4 then (f_X7_spells_2 x n l1 l2 (l3 + (1 : Int32))) else (some ((0 : Int32)))) else none)) else none
def f_X7_spells (p1 : Int32) (p2 : Nat) (x : CS) : Option (Int32) :=
  f_X7_spells_2 x g_fuel p1 p2 (0 : Int32)
def f_X7_alike_3 (x : CS) : Nat → Int32 → Int32 → Int32 → Int32 → Option (Int32)
  | 0, _, _, _, _ => none
  | n + 1, l1, l2, l3, l4 => if l3 ≤ l4 then (some ((1 : Int32))) else ((f_X7_byteAt (l1 + l4) x).bind fun q2 => (f_X7_byteAt (l2 + l4) x).bind fun q3 => if q2 = q3 then (f_X7_alike_3 x n l1 l2 l3 (l4 + (1 : Int32))) else (some ((0 : Int32))))
def f_X7_alike (p1 : Int32) (p2 : Int32) (p3 : Int32) (x : CS) : Option (Int32) :=
  f_X7_alike_3 x g_fuel p1 p2 p3 (0 : Int32)
def f_X8_size (p1 : Int32) (x : CS) : Option (Int32) :=
  if p1 < 0 then (some ((0 : Int32))) else (if (401 : Int32) ≤ p1 then (some ((0 : Int32))) else (if g_ok p1 401 = true then (some (x.1 6 p1.toNatClampNeg)) else none))
def f_X8_add (p1 : Nat) (p2 : Int32) (p3 : Int32) (p4 : Int32) (x : CS) : Option (CS) :=
  if (x.1 3 5) < 0 then (some (x)) else (if (401 : Int32) ≤ (x.1 3 5) then (some (x)) else (if (401 : Int32) ≤ (x.1 3 5) then (some (x)) else (if (401 : Int32) ≤ (x.1 3 5) then (some (x)) else (if (401 : Int32) ≤ (x.1 3 5) then (some (x)) else (if g_ok (x.1 3 5) 401 = true then (if p1 < 46 then (if g_ok ((g_wr x 4 (x.1 3 5).toNatClampNeg p1).1 3 5) 401 = true then (if g_ok ((g_wi (g_wr x 4 (x.1 3 5).toNatClampNeg p1) 5 ((g_wr x 4 (x.1 3 5).toNatClampNeg p1).1 3 5).toNatClampNeg p2).1 3 5) 401 = true then (if g_ok ((g_wi (g_wi (g_wr x 4 (x.1 3 5).toNatClampNeg p1) 5 ((g_wr x 4 (x.1 3 5).toNatClampNeg p1).1 3 5).toNatClampNeg p2) 6 ((g_wi (g_wr x 4 (x.1 3 5).toNatClampNeg p1) 5 ((g_wr x 4 (x.1 3 5).toNatClampNeg p1).1 3 5).toNatClampNeg p2).1 3 5).toNatClampNeg p3).1 3 5) 401 = true then (some (g_wi (g_wi (g_wi (g_wi (g_wr x 4 (x.1 3 5).toNatClampNeg p1) 5 ((g_wr x 4 (x.1 3 5).toNatClampNeg p1).1 3 5).toNatClampNeg p2) 6 ((g_wi (g_wr x 4 (x.1 3 5).toNatClampNeg p1) 5 ((g_wr x 4 (x.1 3 5).toNatClampNeg p1).1 3 5).toNatClampNeg p2).1 3 5).toNatClampNeg p3) 7 ((g_wi (g_wi (g_wr x 4 (x.1 3 5).toNatClampNeg p1) 5 ((g_wr x 4 (x.1 3 5).toNatClampNeg p1).1 3 5).toNatClampNeg p2) 6 ((g_wi (g_wr x 4 (x.1 3 5).toNatClampNeg p1) 5 ((g_wr x 4 (x.1 3 5).toNatClampNeg p1).1 3 5).toNatClampNeg p2).1 3 5).toNatClampNeg p3).1 3 5).toNatClampNeg p4) 3 5 (((g_wi (g_wi (g_wi (g_wr x 4 (x.1 3 5).toNatClampNeg p1) 5 ((g_wr x 4 (x.1 3 5).toNatClampNeg p1).1 3 5).toNatClampNeg p2) 6 ((g_wi (g_wr x 4 (x.1 3 5).toNatClampNeg p1) 5 ((g_wr x 4 (x.1 3 5).toNatClampNeg p1).1 3 5).toNatClampNeg p2).1 3 5).toNatClampNeg p3) 7 ((g_wi (g_wi (g_wr x 4 (x.1 3 5).toNatClampNeg p1) 5 ((g_wr x 4 (x.1 3 5).toNatClampNeg p1).1 3 5).toNatClampNeg p2) 6 ((g_wi (g_wr x 4 (x.1 3 5).toNatClampNeg p1) 5 ((g_wr x 4 (x.1 3 5).toNatClampNeg p1).1 3 5).toNatClampNeg p2).1 3 5).toNatClampNeg p3).1 3 5).toNatClampNeg p4).1 3 5) + (1 : Int32)))) else none) else none) else none) else none) else none)))))
def f_X8_longestSpelled_6 (x : CS) : Nat → Int32 → Nat → Int32 → Option (Nat)
  | 0, _, _, _ => none
  | n + 1, l1, l2, l3 => if (46 : Int32) ≤ l3 then (some (l2)) else (if g_ok l3 46 = true then (if l3.toNatClampNeg < 46 then (if l3.toNatClampNeg < 72 then ((f_J0_length_8abf5 l3.toNatClampNeg).bind fun q4 => if l2 < 46 then (if l2 < 72 then ((f_J0_length_8abf5 l2).bind fun q6 => if q4 ≤ q6 then (f_X8_longestSpelled_6 x n l1 l2 (l3 + (1 : Int32))) else ((f_X7_spells l1 l3.toNatClampNeg x).bind fun q8 => if q8 = 0 then (f_X8_longestSpelled_6 x n l1 l2 (l3 + (1 : Int32))) else (if g_ok l3 46 = true then (f_X8_longestSpelled_6 x n l1 l3.toNatClampNeg (l3 + (1 : Int32))) else none))) else none) else none) else none) else none) else none)
def f_X8_longestSpelled (p1 : Int32) (x : CS) : Option (Nat) :=
  f_X8_longestSpelled_6 x g_fuel p1 45 (0 : Int32)
def f_X8_firstAlike_2 (x : CS) : Nat → Int32 → Int32 → Int32 → Option (Int32)
  | 0, _, _, _ => none
  | n + 1, l1, l2, l3 => if (x.1 3 5) ≤ l3 then (some (x.1 3 5)) else ((f_X8_sign l3 x).bind fun q2 => if q2 = 41 then ((f_X8_size l3 x).bind fun q4 => if q4 = l2 then ((f_X8_place l3 x).bind fun q6 => (f_X7_alike q6 l1 l2 x).bind fun q7 => if q7 = 0 then (f_X8_firstAlike_2 x n l1 l2 (l3 + (1 : Int32))) else (some (l3))) else (f_X8_firstAlike_2 x n l1 l2 (l3 + (1 : Int32)))) else (f_X8_firstAlike_2 x n l1 l2 (l3 + (1 : Int32))))
def f_X8_firstAlike (p1 : Int32) (p2 : Int32) (x : CS) : Option (Int32) :=
  f_X8_firstAlike_2 x g_fuel p1 p2 (0 : Int32)
def f_X8_readWord_41 (l1 : Int32) (l2 : Int32) (x : CS) : Option (CS) :=
  if (l2 - l1) ≤ (10 : Int32) then ((f_X8_longestSpelled l1 x).bind fun q7 => if q7 < 46 then (if q7 < 72 then ((f_J0_length_8abf5 q7).bind fun q9 => if q9 = (l2 - l1) then ((f_X8_add q7 l1 (l2 - l1) (0 : Int32) x).bind fun q13 => some (q13)) else ((f_X8_firstAlike l1 (l2 - l1) x).bind fun q11 => (f_X8_add 41 l1 (l2 - l1) q11 x).bind fun q12 => some (q12))) else none) else none) else ((f_X8_add 45 l1 (l2 - l1) (0 : Int32) x).bind fun q15 => some (q15))
def f_X8_readWord_2  : Nat → Int32 → Int32 → CS → Option (CS)
  | 0, _, _, _ => none
  | n + 1, l1, l2, x => if (x.1 1 1) ≤ l2 then (f_X8_readWord_41 l1 l2 x) else ((f_X7_isLetter l2 x).bind fun q2 => if q2 = 0 then ((f_X7_isDigit l2 x).bind fun q4 => if q4 = 0 then (f_X8_readWord_41 l1 l2 x) else (f_X8_readWord_2 n l1 (l2 + (1 : Int32)) x)) else (f_X8_readWord_2 n l1 (l2 + (1 : Int32)) x))
def f_X8_readWord (p1 : Int32) (x : CS) : Option (CS) :=
  f_X8_readWord_2 g_fuel p1 p1 x
def f_X8_readNumber_71 (l1 : Int32) (l3 : Int32) (l4 : Int32) (s0 : Nat) (x : CS) : Option (CS) :=
  (f_X8_add s0 l1 l4 l3 x).bind fun q6 => some (q6)
def f_X8_readNumber_49 (l1 : Int32) (l2 : Int32) (l3 : Int32) (x : CS) : Option (CS) :=
  if (l2 - l1) ≤ (6 : Int32) then (f_X8_readNumber_71 l1 l3 (l2 - l1) 42 x) else (f_X8_readNumber_71 l1 l3 (l2 - l1) 45 x)
def f_X8_readNumber_4  : Nat → Int32 → Int32 → Int32 → CS → Option (CS)
  | 0, _, _, _, _ => none
  | n + 1, l1, l2, l3, x => if (x.1 1 1) ≤ l2 then (f_X8_readNumber_49 l1 l2 l3 x) else ((f_X7_isDigit l2 x).bind fun q2 => if q2 = 0 then (f_X8_readNumber_49 l1 l2 l3 x) else ((f_X7_byteAt l2 x).bind fun q4 => f_X8_readNumber_4 n l1 (l2 + (1 : Int32)) (((l3 * (10 : Int32)) + q4) - (48 : Int32)) x))
def f_X8_readNumber (p1 : Int32) (x : CS) : Option (CS) :=
  f_X8_readNumber_4 g_fuel p1 p1 (0 : Int32) x
def f_X8_readSymbol (p1 : Int32) (x : CS) : Option (CS) :=
  (f_X8_longestSpelled p1 x).bind fun q1 => if q1 < 46 then (if q1 < 72 then ((f_J0_length_8abf5 q1).bind fun q3 => (f_X8_add q1 p1 q3 (0 : Int32) x).bind fun q4 => some (q4)) else none) else none
def f_X8_readToken (p1 : Int32) (x : CS) : Option (CS) :=
  if p1 < (x.1 1 1) then (if (x.1 3 5) < (400 : Int32) then ((f_X7_isLetter p1 x).bind fun q3 => if q3 = 0 then ((f_X7_isDigit p1 x).bind fun q5 => if q5 = 0 then ((f_X8_readSymbol p1 x).bind fun q7 => some (q7)) else ((f_X8_readNumber p1 x).bind fun q8 => some (q8))) else ((f_X8_readWord p1 x).bind fun q9 => some (q9))) else ((f_X8_add 45 p1 (0 : Int32) (0 : Int32) x).bind fun q10 => some (q10))) else ((f_X8_add 44 p1 (0 : Int32) (0 : Int32) x).bind fun q11 => some (q11))
def f_X8_readTape_16  : Nat → Int32 → Int32 → CS → Option (CS)
  | 0, _, _, _ => none
  | n + 1, l1, l2, x => if (400 : Int32) < l2 then (some (x)) else ((f_X8_readToken l1 x).bind fun q3 => (f_X8_sign l2 q3).bind fun q4 => if q4 = 44 then (some (q3)) else ((f_X8_sign l2 q3).bind fun q6 => if q6 = 45 then (some (q3)) else ((f_X8_size l2 q3).bind fun q8 => (f_X7_behindBlanks (l1 + q8) q3).bind fun q9 => f_X8_readTape_16 n q9 (l2 + (1 : Int32)) q3)))
def f_X8_readTape (x : CS) : Option (CS) :=
  (f_X7_behindBlanks (0 : Int32) (g_wi x 3 5 (0 : Int32))).bind fun q1 => f_X8_readTape_16 g_fuel q1 (0 : Int32) (g_wi x 3 5 (0 : Int32))
def f_X9_copyFrom_26  : Nat → Nat → Nat → Int32 → CS → Option (CS)
  | 0, _, _, _, _ => none
  | n + 1, l0, l1, l2, x => if (x.1 l0 2) ≤ l2 then (some (x)) else ((f_X9_word l0 l2 x).bind fun q2 => if kd (q2) = 10 then ((f_X9_word l1 l2 x).bind fun q4 => if kd (q4) = 10 then ((f_X3_copyFrom (q2 + 1) (q4 + 1) x).bind fun q6 => (f_X9_word l0 l2 q6).bind fun q7 => if kd (q7) = 10 then ((f_X9_word l1 l2 q6).bind fun q9 => if kd (q9) = 10 then (if (q6.1 q9 1) = 0 ∨ (q6.1 q9 1) = 1 then ((f_X9_word l0 l2 (g_wi q6 q7 1 (q6.1 q9 1))).bind fun q12 => if kd (q12) = 10 then ((f_X9_word l1 l2 (g_wi q6 q7 1 (q6.1 q9 1))).bind fun q14 => if kd (q14) = 10 then (f_X9_copyFrom_26 n l0 l1 (l2 + (1 : Int32)) (g_wi (g_wi q6 q7 1 (q6.1 q9 1)) q12 2 ((g_wi q6 q7 1 (q6.1 q9 1)).1 q14 2))) else none) else none) else none) else none) else none) else none) else none)
def f_X9_copyFrom (t : Nat) (p1 : Nat) (x : CS) : Option (CS) :=
  f_X9_copyFrom_26 g_fuel t p1 (0 : Int32) (g_wi (g_wi (g_wi x t 2 (x.1 p1 2)) t 3 ((g_wi x t 2 (x.1 p1 2)).1 p1 3)) t 4 ((g_wi (g_wi x t 2 (x.1 p1 2)) t 3 ((g_wi x t 2 (x.1 p1 2)).1 p1 3)).1 p1 4))
def f_X10_fewestSteps (p1 : Nat) (p2 : Nat) (p3 : Int32) (x : CS) : Option (Int32 × CS) :=
  (f_X10_lightest p1 p2 p3 (0 : Int32) x).bind fun q1 => some ((q1.1 - q1.1 / (64 : Int32) * (64 : Int32), q1.2))
def f_X10_contourDistance (p1 : Nat) (p2 : Nat) (p3 : Int32) (x : CS) : Option (Int32 × CS) :=
  (f_X3_traceContour 10 p1 x).bind fun q1 => (f_X3_traceContour 12 p2 q1).bind fun q2 => (f_X10_lightest 10 12 p3 (1 : Int32) q2).bind fun q3 => some ((q3.1 / (64 : Int32), q3.2))
def f_X12_feed (p1 : Int32) (p2 : Int32) (p3 : Int32) (p4 : Int32) (p5 : Int32) (x : CS) : Option (Nat ⊕ (Int32 × CS)) :=
  if (x.1 1 1) ≤ (1980 : Int32) then ((f_X7_append p1 x).bind fun q2 => (f_X7_append p2 q2).bind fun q3 => (f_X7_append p3 q3).bind fun q4 => (f_X7_append p4 q4).bind fun q5 => (f_X7_append p5 q5).bind fun q6 => some (Sum.inr ((q6.1 1 1, q6)))) else (some (Sum.inl 1))
def f_X12_trim_15 (x : CS) : Option (Nat ⊕ (Int32 × CS)) :=
  some (Sum.inl 2)
def f_X12_trim (p1 : Int32) (x : CS) : Option (Nat ⊕ (Int32 × CS)) :=
  if p1 < 0 then (f_X12_trim_15 x) else (if p1 ≤ (x.1 1 1) then (some (Sum.inr ((p1, g_wi x 1 1 p1)))) else (f_X12_trim_15 x))
def f_X12_errorAt (x : CS) : Option (Int32) :=
  some (x.1 0 10)
def f_X12_words (x : CS) : Option (Int32) :=
  if kd (x.2 0 7) = 9 then (some (x.1 (x.2 0 7) 2)) else none
def f_X12_keptWords (x : CS) : Option (Int32) :=
  if kd (x.2 0 7) = 9 then ((f_X9_countKept (x.2 0 7) x).bind fun q2 => some (q2)) else none
def f_X12_rules (x : CS) : Option (Int32) :=
  if kd (x.2 0 6) = 7 then (some (x.1 (x.2 0 6) 4)) else none
def f_X12_lessons (x : CS) : Option (Int32) :=
  if kd (x.2 0 7) = 9 then (some (x.1 (x.2 0 7) 3)) else none
def f_X12_rulesCarriedOut (x : CS) : Option (Int32) :=
  if kd (x.2 0 7) = 9 then (some (x.1 (x.2 0 7) 4)) else none
def f_X12_heardBeats (x : CS) : Option (Int32) :=
  some (x.1 14 1)
def f_X12_requireWord_15 (x : CS) : Option (Nat ⊕ (Unit)) :=
  some (Sum.inl 3)
def f_X12_requireWord (p1 : Int32) (x : CS) : Option (Nat ⊕ (Unit)) :=
  if p1 < 0 then (f_X12_requireWord_15 x) else (if kd (x.2 0 7) = 9 then (if p1 < (x.1 (x.2 0 7) 2) then (some (Sum.inr (()))) else (f_X12_requireWord_15 x)) else none)
def f_X12_rowOf (p1 : Int32) (x : CS) : Option (Nat) :=
  if kd (x.2 0 7) = 9 then ((f_X9_word (x.2 0 7) p1 x).bind fun q2 => if kd (q2) = 10 then (some (q2 + 1)) else none) else none
def f_X12_lengthOf (p1 : Int32) (x : CS) : Option (Nat ⊕ (Int32)) :=
  (f_X12_requireWord p1 x).bind fun q1 => g_sb q1 (fun _ => (f_X12_rowOf p1 x).bind fun q2 => if kd (q2) = 5 then (some (Sum.inr (x.1 q2 1))) else none)
def f_X12_requireBeat_12 (x : CS) : Option (Nat ⊕ (Unit)) :=
  some (Sum.inl 3)
def f_X12_requireBeat (p1 : Nat) (p2 : Int32) (x : CS) : Option (Nat ⊕ (Unit)) :=
  if p2 < 0 then (f_X12_requireBeat_12 x) else (if p2 < (x.1 p1 1) then (some (Sum.inr (()))) else (f_X12_requireBeat_12 x))
def f_X12_pitchAt (p1 : Int32) (p2 : Int32) (x : CS) : Option (Nat ⊕ (Int32)) :=
  (f_X12_requireWord p1 x).bind fun q1 => g_sb q1 (fun _ => (f_X12_rowOf p1 x).bind fun q2 => if kd (q2) = 5 then ((f_X12_requireBeat q2 p2 x).bind fun q4 => g_sb q4 (fun _ => (f_X12_rowOf p1 x).bind fun q5 => if kd (q5) = 5 then ((f_X3_pitch q5 p2 x).bind fun q7 => some (Sum.inr (q7))) else none)) else none)
def f_X12_contourAt (p1 : Int32) (p2 : Int32) (x : CS) : Option (Nat ⊕ (Int32)) :=
  (f_X12_requireWord p1 x).bind fun q1 => g_sb q1 (fun _ => (f_X12_rowOf p1 x).bind fun q2 => if kd (q2) = 5 then ((f_X12_requireBeat q2 p2 x).bind fun q4 => g_sb q4 (fun _ => (f_X12_rowOf p1 x).bind fun q5 => if kd (q5) = 5 then ((f_X3_contour q5 p2 x).bind fun q7 => some (Sum.inr (q7))) else none)) else none)
def f_X12_isPruned (p1 : Int32) (x : CS) : Option (Nat ⊕ (Int32)) :=
  (f_X12_requireWord p1 x).bind fun q1 => g_sb q1 (fun _ => if kd (x.2 0 7) = 9 then ((f_X9_word (x.2 0 7) p1 x).bind fun q3 => if kd (q3) = 10 then (if (x.1 q3 1) = 0 ∨ (x.1 q3 1) = 1 then (some (Sum.inr (x.1 q3 1))) else none) else none) else none)
def f_X12_silentBeats (p1 : Int32) (x : CS) : Option (Nat ⊕ (Int32)) :=
  (f_X12_requireWord p1 x).bind fun q1 => g_sb q1 (fun _ => (f_X12_rowOf p1 x).bind fun q2 => if kd (q2) = 5 then ((f_X3_countSilent q2 x).bind fun q4 => some (Sum.inr (q4))) else none)
def f_X12_wordsApart (p1 : Int32) (p2 : Int32) (x : CS) : Option (Int32 × CS) :=
  (f_X12_rowOf p1 x).bind fun q1 => if kd (q1) = 5 then ((f_X12_rowOf p2 x).bind fun q3 => if kd (q3) = 5 then (if kd (x.2 0 6) = 7 then ((f_X10_distance q1 q3 (x.1 (x.2 0 6) 6) x).bind fun q6 => some ((q6.1, q6.2))) else none) else none) else none
def f_X12_distanceBetween (p1 : Int32) (p2 : Int32) (x : CS) : Option (Nat ⊕ (Int32 × CS)) :=
  (f_X12_requireWord p1 x).bind fun q1 => g_sb q1 (fun _ => (f_X12_requireWord p2 x).bind fun q2 => g_sb q2 (fun _ => (f_X12_wordsApart p1 p2 x).bind fun q3 => some (Sum.inr ((q3.1, q3.2)))))
def f_X12_contourBetween (p1 : Int32) (p2 : Int32) (x : CS) : Option (Nat ⊕ (Int32 × CS)) :=
  (f_X12_requireWord p1 x).bind fun q1 => g_sb q1 (fun _ => (f_X12_requireWord p2 x).bind fun q2 => g_sb q2 (fun _ => (f_X12_rowOf p1 x).bind fun q3 => if kd (q3) = 5 then ((f_X12_rowOf p2 x).bind fun q5 => if kd (q5) = 5 then (if kd (x.2 0 6) = 7 then ((f_X10_contourDistance q3 q5 (x.1 (x.2 0 6) 6) x).bind fun q8 => some (Sum.inr ((q8.1, q8.2)))) else none) else none) else none))
def f_X12_nearEachOther (p1 : Int32) (p2 : Int32) (x : CS) : Option (Int32 × CS) :=
  (f_X12_rowOf p1 x).bind fun q1 => if kd (q1) = 5 then ((f_X12_rowOf p2 x).bind fun q3 => if kd (q3) = 5 then ((f_J9_max_7cf53 (x.1 q1 1) (x.1 q3 1)).bind fun q5 => if p1 = p2 then (some (((0 : Int32), x))) else ((f_X12_wordsApart p1 p2 x).bind fun q7 => if kd (q7.2.2 0 6) = 7 then (if (((q7.2.1 (q7.2.2 0 6) 7) * q5) / (4 : Int32)) ≤ q7.1 then (some (((0 : Int32), q7.2))) else (some (((1 : Int32), q7.2)))) else none)) else none) else none
def f_X12_areNear (p1 : Int32) (p2 : Int32) (x : CS) : Option (Nat ⊕ (Int32 × CS)) :=
  (f_X12_requireWord p1 x).bind fun q1 => g_sb q1 (fun _ => (f_X12_requireWord p2 x).bind fun q2 => g_sb q2 (fun _ => (f_X12_nearEachOther p1 p2 x).bind fun q3 => if q3.1 = 0 ∨ q3.1 = 1 then (some (Sum.inr ((q3.1, q3.2)))) else none))
def f_X12_nearestTo_33  : Nat → Int32 → Int32 → Int32 → Int32 → CS → Option (Nat ⊕ (Int32 × CS))
  | 0, _, _, _, _, _ => none
  | n + 1, l1, l2, l3, l4, x => if kd (x.2 0 7) = 9 then (if (x.1 (x.2 0 7) 2) ≤ l4 then (some (Sum.inr ((l2, x)))) else (if l4 = l1 then (f_X12_nearestTo_33 n l1 l2 l3 (l4 + (1 : Int32)) x) else ((f_X12_wordsApart l1 l4 x).bind fun q7 => if l2 = (-1 : Int32) then (f_X12_nearestTo_33 n l1 l4 q7.1 (l4 + (1 : Int32)) q7.2) else (if l3 ≤ q7.1 then (f_X12_nearestTo_33 n l1 l2 l3 (l4 + (1 : Int32)) q7.2) else (f_X12_nearestTo_33 n l1 l4 q7.1 (l4 + (1 : Int32)) q7.2))))) else none
def f_X12_nearestTo (p1 : Int32) (x : CS) : Option (Nat ⊕ (Int32 × CS)) :=
  (f_X12_requireWord p1 x).bind fun q1 => g_sb q1 (fun _ => if kd (x.2 0 7) = 9 then (if (2 : Int32) ≤ (x.1 (x.2 0 7) 2) then (f_X12_nearestTo_33 g_fuel p1 (-1 : Int32) (0 : Int32) (0 : Int32) x) else (some (Sum.inl 1))) else none)
def f_X12_needless_18  : Nat → Int32 → Int32 → CS → Option (Int32 × CS)
  | 0, _, _, _ => none
  | n + 1, l1, l2, x => if l1 ≤ l2 then (some (((0 : Int32), x))) else (if kd (x.2 0 7) = 9 then ((f_X9_word (x.2 0 7) l2 x).bind fun q7 => if kd (q7) = 10 then (if (x.1 q7 1) = 0 then ((f_X12_nearEachOther l2 l1 x).bind fun q10 => if q10.1 = 0 then (f_X12_needless_18 n l1 (l2 + (1 : Int32)) q10.2) else (some (((1 : Int32), q10.2)))) else (f_X12_needless_18 n l1 (l2 + (1 : Int32)) x)) else none) else none)
def f_X12_needless (p1 : Int32) (x : CS) : Option (Int32 × CS) :=
  if kd (x.2 0 7) = 9 then ((f_X9_word (x.2 0 7) p1 x).bind fun q2 => if kd (q2) = 10 then (if (x.1 q2 1) = 0 then (f_X12_needless_18 g_fuel p1 (0 : Int32) x) else (some (((0 : Int32), x)))) else none) else none
def f_X12_isNeedless (p1 : Int32) (x : CS) : Option (Nat ⊕ (Int32 × CS)) :=
  (f_X12_requireWord p1 x).bind fun q1 => g_sb q1 (fun _ => (f_X12_needless p1 x).bind fun q2 => if q2.1 = 0 ∨ q2.1 = 1 then (some (Sum.inr ((q2.1, q2.2)))) else none)
def f_X12_heardPitch (p1 : Int32) (x : CS) : Option (Nat ⊕ (Int32)) :=
  (f_X12_requireBeat 14 p1 x).bind fun q1 => g_sb q1 (fun _ => (f_X3_pitch 14 p1 x).bind fun q2 => some (Sum.inr (q2)))
def f_X12_requireSomeHeard (x : CS) : Option (Nat ⊕ (Unit)) :=
  if (x.1 14 1) = 0 then (some (Sum.inl 1)) else (some (Sum.inr (())))
def f_X12_distanceTo (p1 : Int32) (x : CS) : Option (Nat ⊕ (Int32)) :=
  (f_X12_requireWord p1 x).bind fun q1 => g_sb q1 (fun _ => (f_X12_requireSomeHeard x).bind fun q2 => g_sb q2 (fun _ => if kd (x.2 0 7) = 9 then ((f_X9_word (x.2 0 7) p1 x).bind fun q4 => if kd (q4) = 10 then (some (Sum.inr (x.1 q4 2))) else none) else none))
def f_X12_contourTo (p1 : Int32) (x : CS) : Option (Nat ⊕ (Int32 × CS)) :=
  (f_X12_requireWord p1 x).bind fun q1 => g_sb q1 (fun _ => (f_X12_requireSomeHeard x).bind fun q2 => g_sb q2 (fun _ => (f_X12_rowOf p1 x).bind fun q3 => if kd (q3) = 5 then (if kd (x.2 0 6) = 7 then ((f_X10_contourDistance q3 14 (x.1 (x.2 0 6) 6) x).bind fun q6 => some (Sum.inr ((q6.1, q6.2)))) else none) else none))
def f_X12_stepsTo (p1 : Int32) (x : CS) : Option (Nat ⊕ (Int32 × CS)) :=
  (f_X12_requireWord p1 x).bind fun q1 => g_sb q1 (fun _ => (f_X12_requireSomeHeard x).bind fun q2 => g_sb q2 (fun _ => (f_X12_rowOf p1 x).bind fun q3 => if kd (q3) = 5 then (if kd (x.2 0 6) = 7 then ((f_X10_fewestSteps q3 14 (x.1 (x.2 0 6) 6) x).bind fun q6 => some (Sum.inr ((q6.1, q6.2)))) else none) else none))
def f_X12_requireMeant (p1 : Int32) : Option (Nat ⊕ (Unit)) :=
  if p1 = (-1 : Int32) then (some (Sum.inl 1)) else (some (Sum.inr (())))
def f_X12_meantWord (x : CS) : Option (Nat ⊕ (Int32)) :=
  if kd (x.2 0 7) = 9 then ((f_X1_meantOf (x.2 0 7) x).bind fun q2 => (f_X12_requireMeant q2).bind fun q3 => g_sb q3 (fun _ => some (Sum.inr (q2)))) else none
def f_X12_surety (x : CS) : Option (Nat ⊕ (Int32)) :=
  if kd (x.2 0 7) = 9 then ((f_X1_meantOf (x.2 0 7) x).bind fun q2 => (f_X12_requireMeant q2).bind fun q3 => g_sb q3 (fun _ => (f_X9_closestKept (x.2 0 7) q2 x).bind fun q4 => if q4 = (-1 : Int32) then (some (Sum.inr ((-1 : Int32)))) else ((f_X9_word (x.2 0 7) q4 x).bind fun q6 => if kd (q6) = 10 then ((f_X9_word (x.2 0 7) q2 x).bind fun q8 => if kd (q8) = 10 then (some (Sum.inr ((x.1 q6 2) - (x.1 q8 2)))) else none) else none))) else none
def f_X12_hear_10 (x : CS) : Option (Nat ⊕ (Int32 × CS)) :=
  some (Sum.inl 2)
def f_X12_hear (p1 : Int32) (x : CS) : Option (Nat ⊕ (Int32 × CS)) :=
  if p1 < 0 then (f_X12_hear_10 x) else (if p1 ≤ (40 : Int32) then (if (x.1 14 1) < (24 : Int32) then ((f_X3_add 14 p1 x).bind fun q4 => if kd (q4.2 0 6) = 7 then (if kd (q4.2 0 7) = 9 then ((f_X1_measureAll (q4.2 0 6) (q4.2 0 7) q4).bind fun q7 => some (Sum.inr ((q7.1 14 1, q7)))) else none) else none) else (some (Sum.inl 1))) else (f_X12_hear_10 x))
def f_X12_hearWord_17 (x : CS) : Option (Nat ⊕ (Int32 × CS)) :=
  some (Sum.inl 2)
def f_X12_hearWord (p1 : Int32) (p2 : Int32) (x : CS) : Option (Nat ⊕ (Int32 × CS)) :=
  (f_X12_requireWord p1 x).bind fun q1 => g_sb q1 (fun _ => if p2 < (-39 : Int32) then (f_X12_hearWord_17 x) else (if p2 ≤ (39 : Int32) then ((f_X12_rowOf p1 x).bind fun q4 => if kd (q4) = 5 then ((f_X3_copyFrom 14 q4 x).bind fun q6 => (f_X3_shift 14 p2 q6).bind fun q7 => if kd (q7.2.2 0 6) = 7 then (if kd (q7.2.2 0 7) = 9 then ((f_X1_measureAll (q7.2.2 0 6) (q7.2.2 0 7) q7.2).bind fun q10 => some (Sum.inr ((q10.1 14 1, q10)))) else none) else none) else none) else (f_X12_hearWord_17 x)))
def f_X12_forget (x : CS) : Option (Int32 × CS) :=
  if kd ((g_wi x 14 1 (0 : Int32)).2 0 6) = 7 then (if kd ((g_wi x 14 1 (0 : Int32)).2 0 7) = 9 then ((f_X1_measureAll ((g_wi x 14 1 (0 : Int32)).2 0 6) ((g_wi x 14 1 (0 : Int32)).2 0 7) (g_wi x 14 1 (0 : Int32))).bind fun q3 => some ((x.1 14 1, q3))) else none) else none
def f_X12_turnPruned (p1 : Int32) (x : CS) : Option (Nat ⊕ (Int32 × CS)) :=
  (f_X12_requireWord p1 x).bind fun q1 => g_sb q1 (fun _ => if kd (x.2 0 7) = 9 then ((f_X9_word (x.2 0 7) p1 x).bind fun q3 => if kd (q3) = 10 then (if (x.1 q3 1) = 0 then (if ((g_wi x q3 1 (1 : Int32)).1 q3 1) = 0 ∨ ((g_wi x q3 1 (1 : Int32)).1 q3 1) = 1 then (some (Sum.inr (((g_wi x q3 1 (1 : Int32)).1 q3 1, g_wi x q3 1 (1 : Int32))))) else none) else (if ((g_wi x q3 1 (0 : Int32)).1 q3 1) = 0 ∨ ((g_wi x q3 1 (0 : Int32)).1 q3 1) = 1 then (some (Sum.inr (((g_wi x q3 1 (0 : Int32)).1 q3 1, g_wi x q3 1 (0 : Int32))))) else none)) else none) else none)
def f_X12_pruneNeedless_4  : Nat → Int32 → Int32 → CS → Option (Int32 × CS)
  | 0, _, _, _ => none
  | n + 1, l1, l2, x => if kd (x.2 0 7) = 9 then (if (x.1 (x.2 0 7) 2) ≤ l2 then (some ((l1, x))) else ((f_X12_needless l2 x).bind fun q3 => if q3.1 = 0 then (f_X12_pruneNeedless_4 n l1 (l2 + (1 : Int32)) q3.2) else (if kd (q3.2.2 0 7) = 9 then ((f_X9_word (q3.2.2 0 7) l2 q3.2).bind fun q6 => if kd (q6) = 10 then (f_X12_pruneNeedless_4 n (l1 + (1 : Int32)) (l2 + (1 : Int32)) (g_wi q3.2 q6 1 (1 : Int32))) else none) else none))) else none
def f_X12_pruneNeedless (x : CS) : Option (Int32 × CS) :=
  f_X12_pruneNeedless_4 g_fuel (0 : Int32) (0 : Int32) x
def f_X12_requireLessons_11  : Option (Nat ⊕ (Unit)) :=
  some (Sum.inl 2)
def f_X12_requireLessons (p1 : Int32) : Option (Nat ⊕ (Unit)) :=
  if p1 < (1 : Int32) then (f_X12_requireLessons_11) else (if p1 ≤ (20 : Int32) then (some (Sum.inr (()))) else (f_X12_requireLessons_11))
def f_X12_passLessons_8  : Nat → Int32 → Int32 → Int32 → CS → Option (Nat ⊕ (Int32 × CS))
  | 0, _, _, _, _ => none
  | n + 1, l1, l2, l3, x => if l1 ≤ l3 then (some (Sum.inr ((l2, x)))) else (if kd (x.2 0 6) = 7 then (if kd (x.2 0 7) = 9 then ((f_X1_passOne (x.2 0 6) (x.2 0 7) x).bind fun q5 => f_X12_passLessons_8 n l1 (l2 + q5.1) (l3 + (1 : Int32)) q5.2) else none) else none)
def f_X12_passLessons (p1 : Int32) (x : CS) : Option (Nat ⊕ (Int32 × CS)) :=
  (f_X12_requireLessons p1).bind fun q1 => g_sb q1 (fun _ => f_X12_passLessons_8 g_fuel p1 (0 : Int32) (0 : Int32) x)
def f_X12_keptAfter_17  : Nat → Int32 → Int32 → CS → Option (Nat ⊕ (Int32 × CS))
  | 0, _, _, _ => none
  | n + 1, l1, l2, x => if l1 ≤ l2 then (if kd (x.2 0 9) = 9 then ((f_X9_countKept (x.2 0 9) x).bind fun q7 => some (Sum.inr ((q7, x)))) else none) else (if kd (x.2 0 6) = 7 then (if kd (x.2 0 9) = 9 then ((f_X1_passOne (x.2 0 6) (x.2 0 9) x).bind fun q10 => f_X12_keptAfter_17 n l1 (l2 + (1 : Int32)) q10.2) else none) else none)
def f_X12_keptAfter (p1 : Int32) (x : CS) : Option (Nat ⊕ (Int32 × CS)) :=
  (f_X12_requireLessons p1).bind fun q1 => g_sb q1 (fun _ => if kd (x.2 0 9) = 9 then (if kd (x.2 0 7) = 9 then ((f_X9_copyFrom (x.2 0 9) (x.2 0 7) x).bind fun q4 => f_X12_keptAfter_17 g_fuel p1 (0 : Int32) q4) else none) else none)
def f_X12_lessonsUntilMeant_18  : Nat → Int32 → Int32 → CS → Option (Nat ⊕ (Int32 × CS))
  | 0, _, _, _ => none
  | n + 1, l1, l2, x => if (20 : Int32) < l2 then (some (Sum.inr (((-1 : Int32), x)))) else (if kd (x.2 0 9) = 9 then ((f_X1_meantOf (x.2 0 9) x).bind fun q7 => if q7 = l1 then (some (Sum.inr ((l2, x)))) else (if kd (x.2 0 6) = 7 then ((f_X1_passOne (x.2 0 6) (x.2 0 9) x).bind fun q10 => f_X12_lessonsUntilMeant_18 n l1 (l2 + (1 : Int32)) q10.2) else none)) else none)
def f_X12_lessonsUntilMeant (p1 : Int32) (x : CS) : Option (Nat ⊕ (Int32 × CS)) :=
  (f_X12_requireWord p1 x).bind fun q1 => g_sb q1 (fun _ => if kd (x.2 0 9) = 9 then (if kd (x.2 0 7) = 9 then ((f_X9_copyFrom (x.2 0 9) (x.2 0 7) x).bind fun q4 => f_X12_lessonsUntilMeant_18 g_fuel p1 (0 : Int32) q4) else none) else none)
def f_X12_distanceIfShifted (p1 : Int32) (p2 : Int32) (x : CS) : Option (Int32 × CS) :=
  (f_X3_copyFrom 16 14 x).bind fun q1 => (f_X3_shift 16 p2 q1).bind fun q2 => (f_X12_rowOf p1 q2.2).bind fun q3 => if kd (q3) = 5 then (if kd (q2.2.2 0 6) = 7 then ((f_X10_distance q3 16 (q2.2.1 (q2.2.2 0 6) 6) q2.2).bind fun q6 => some ((q6.1, q6.2))) else none) else none
def f_X12_bestShift_49 (k21 : Int32 → Int32 → Int32 → Int32 → CS → Option (Nat ⊕ (Int32 × CS))) (l1 : Int32) (l2 : Int32) (l3 : Int32) (l4 : Int32) (x : CS) : Option (Nat ⊕ (Int32 × CS)) :=
  (f_X12_distanceIfShifted l1 (-l4) x).bind fun q7 => if l3 ≤ q7.1 then (k21 l1 l2 l3 (l4 + (1 : Int32)) q7.2) else (k21 l1 (-l4) q7.1 (l4 + (1 : Int32)) q7.2)
def f_X12_bestShift_21  : Nat → Int32 → Int32 → Int32 → Int32 → CS → Option (Nat ⊕ (Int32 × CS))
  | 0, _, _, _, _, _ => none
  | n + 1, l1, l2, l3, l4, x => if (39 : Int32) < l4 then (some (Sum.inr ((l2, x)))) else ((f_X12_distanceIfShifted l1 l4 x).bind fun q5 => if l3 ≤ q5.1 then (f_X12_bestShift_49 (f_X12_bestShift_21 n) l1 l2 l3 l4 q5.2) else (f_X12_bestShift_49 (f_X12_bestShift_21 n) l1 l4 q5.1 l4 q5.2))
def f_X12_bestShift (p1 : Int32) (x : CS) : Option (Nat ⊕ (Int32 × CS)) :=
  (f_X12_requireWord p1 x).bind fun q1 => g_sb q1 (fun _ => (f_X12_requireSomeHeard x).bind fun q2 => g_sb q2 (fun _ => (f_X12_distanceIfShifted p1 (0 : Int32) x).bind fun q3 => f_X12_bestShift_21 g_fuel p1 (0 : Int32) q3.1 (1 : Int32) q3.2))
def f_X12_meanLength_16 (x : CS) : Nat → Int32 → Int32 → Option (UInt64)
  | 0, _, _ => none
  | n + 1, l1, l2 => if kd (x.2 0 7) = 9 then (if (x.1 (x.2 0 7) 2) ≤ l2 then (if g_nan (FP.ddiv (FP.i2d l1) (FP.i2d (x.1 (x.2 0 7) 2))) = false then (some (FP.ddiv (FP.i2d l1) (FP.i2d (x.1 (x.2 0 7) 2)))) else none) else ((f_X12_rowOf l2 x).bind fun q6 => if kd (q6) = 5 then (f_X12_meanLength_16 x n (l1 + (x.1 q6 1)) (l2 + (1 : Int32))) else none)) else none
def f_X12_meanLength (x : CS) : Option (UInt64) :=
  if kd (x.2 0 7) = 9 then (if (x.1 (x.2 0 7) 2) = 0 then (some (FP.dconst0)) else (f_X12_meanLength_16 x g_fuel (0 : Int32) (0 : Int32))) else none
def f_X12_digestOfRow_5 (x : CS) : Nat → Nat → Int64 → Int32 → Option (Int64)
  | 0, _, _, _ => none
  | n + 1, l2, l3, l5 => if (x.1 l2 1) ≤ l5 then (some (l3)) else ((f_X3_pitch l2 l5 x).bind fun q2 => f_X12_digestOfRow_5 x n l2 ((l3 * (31 : Int64)) + q2.toInt64) (l5 + (1 : Int32)))
def f_X12_digestOfRow (p1 : Int64) (p2 : Nat) (x : CS) : Option (Int64) :=
  f_X12_digestOfRow_5 x g_fuel p2 p1 (0 : Int32)
def f_X12_digestOfWord_88  : Nat → Int32 → Int64 → Int32 → CS → Option (Int64 × CS)
  | 0, _, _, _, _ => none
  | n + 1, l3, l4, l6, x => if kd (x.2 0 7) = 9 then (if (x.1 (x.2 0 7) 2) ≤ l6 then (some ((l4, x))) else ((f_X12_wordsApart l3 l6 x).bind fun q14 => f_X12_digestOfWord_88 n l3 ((l4 * (31 : Int64)) + q14.1.toInt64) (l6 + (1 : Int32)) q14.2)) else none
def f_X12_digestOfWord_69 (l3 : Int32) (s0 : Int32) (s1 : Int64) (x : CS) : Option (Int64 × CS) :=
  (f_X12_rowOf l3 x).bind fun q9 => if kd (q9) = 5 then ((f_X12_digestOfRow (s1 + s0.toInt64) q9 x).bind fun q11 => f_X12_digestOfWord_88 g_fuel l3 q11 (0 : Int32) x) else none
def f_X12_digestOfWord_46 (l3 : Int32) (s0 : Int32) (s1 : Int64) (x : CS) : Option (Int64 × CS) :=
  (f_X12_needless l3 x).bind fun q7 => if q7.1 = 0 then (f_X12_digestOfWord_69 l3 (0 : Int32) ((s1 + s0.toInt64) * (31 : Int64)) q7.2) else (f_X12_digestOfWord_69 l3 (1 : Int32) ((s1 + s0.toInt64) * (31 : Int64)) q7.2)
def f_X12_digestOfWord (p1 : Int64) (p2 : Int32) (x : CS) : Option (Int64 × CS) :=
  (f_X12_rowOf p2 x).bind fun q1 => if kd (q1) = 5 then (if kd (x.2 0 7) = 9 then ((f_X9_word (x.2 0 7) p2 x).bind fun q4 => if kd (q4) = 10 then (if (x.1 q4 1) = 0 then (f_X12_digestOfWord_46 p2 (0 : Int32) (((p1 * (31 : Int64)) + ((x.1 q1 1).toInt64)) * (31 : Int64)) x) else (f_X12_digestOfWord_46 p2 (1 : Int32) (((p1 * (31 : Int64)) + ((x.1 q1 1).toInt64)) * (31 : Int64)) x)) else none) else none) else none
def f_X12_digest_115  : Nat → Int64 → Int32 → CS → Option (Int64 × CS)
  | 0, _, _, _ => none
  | n + 1, l1, l3, x => if kd (x.2 0 7) = 9 then (if (x.1 (x.2 0 7) 2) ≤ l3 then ((f_X12_digestOfRow l1 14 x).bind fun q7 => some ((q7, x))) else ((f_X12_digestOfWord l1 l3 x).bind fun q8 => f_X12_digest_115 n q8.1 (l3 + (1 : Int32)) q8.2)) else none
def f_X12_digest (x : CS) : Option (Int64 × CS) :=
  if kd (x.2 0 7) = 9 then ((f_X9_countKept (x.2 0 7) x).bind fun q2 => if kd (x.2 0 6) = 7 then ((f_X1_meantOf (x.2 0 7) x).bind fun q4 => f_X12_digest_115 g_fuel (((((((((((((((1019 : Int64) * (31 : Int64)) + ((x.1 (x.2 0 7) 2).toInt64)) * (31 : Int64)) + q2.toInt64) * (31 : Int64)) + ((x.1 (x.2 0 6) 4).toInt64)) * (31 : Int64)) + ((x.1 (x.2 0 7) 3).toInt64)) * (31 : Int64)) + ((x.1 (x.2 0 7) 4).toInt64)) * (31 : Int64)) + ((x.1 14 1).toInt64)) * (31 : Int64)) + q4.toInt64) (0 : Int32) x) else none) else none
def f_X12_beginAnew (x : CS) : Option (CS) :=
  if kd (x.2 0 6) = 7 then (if kd (x.2 0 8) = 7 then (if kd ((g_wr (g_wr x 0 6 (x.2 0 8)) 0 8 (x.2 0 6)).2 0 7) = 9 then (if kd ((g_wr (g_wr x 0 6 (x.2 0 8)) 0 8 (x.2 0 6)).2 0 9) = 9 then (some (g_wi (g_wr (g_wr (g_wr (g_wr x 0 6 (x.2 0 8)) 0 8 (x.2 0 6)) 0 7 ((g_wr (g_wr x 0 6 (x.2 0 8)) 0 8 (x.2 0 6)).2 0 9)) 0 9 ((g_wr (g_wr x 0 6 (x.2 0 8)) 0 8 (x.2 0 6)).2 0 7)) 14 1 (0 : Int32))) else none) else none) else none) else none
def f_X13_begin_24  : Nat → Nat → Int32 → MS → Option (MS)
  | 0, _, _, _ => none
  | n + 1, l0, l2, y => if (8 : Int32) ≤ l2 then (if g_ok (8 : Int32) 10 = true then (some (g_mi (g_mi (g_mi y (l0 + 1) (8 : Int32).toNatClampNeg (0 : Int32)) l0 3 (0 : Int32)) l0 4 (0 : Int32))) else none) else (if g_ok l2 8 = true then (f_X13_begin_24 n l0 (l2 + (1 : Int32)) (g_mi y (l0 + 3) l2.toNatClampNeg (0 : Int32))) else none)
def f_X13_begin (t : Nat) (p1 : Nat) (y : MS) : Option (MS) :=
  f_X13_begin_24 g_fuel t (0 : Int32) (g_cp (g_cp y (p1 + 1) (t + 1) 10) (p1 + 2) (t + 2) 240)
def f_X13_become (t : Nat) (p1 : Nat) (y : MS) : Option (MS) :=
  some (g_mi (g_mi (g_cp (g_cp (g_cp y (p1 + 1) (t + 1) 10) (p1 + 2) (t + 2) 240) (p1 + 3) (t + 3) 8) t 3 ((g_cp (g_cp (g_cp y (p1 + 1) (t + 1) 10) (p1 + 2) (t + 2) 240) (p1 + 3) (t + 3) 8) p1 3)) t 4 ((g_mi (g_cp (g_cp (g_cp y (p1 + 1) (t + 1) 10) (p1 + 2) (t + 2) 240) (p1 + 3) (t + 3) 8) t 3 ((g_cp (g_cp (g_cp y (p1 + 1) (t + 1) 10) (p1 + 2) (t + 2) 240) (p1 + 3) (t + 3) 8) p1 3)) p1 4))
def f_X14_begin (t : Nat) (y : MS) : Option (MS) :=
  some (g_mi (g_mi (g_mi (g_mi (g_mi y t 0 (4 : Int32)) t 1 (6 : Int32)) t 2 (0 : Int32)) t 5 (0 : Int32)) t 12 (0 : Int32))
def f_X14_become (t : Nat) (p1 : Nat) (y : MS) : Option (MS) :=
  some (g_cp (g_cp (g_cp (g_cp (g_cp (g_cp (g_cp (g_cp (g_cp (g_cp (g_cp (g_mi (g_mi (g_mi (g_mi (g_mi y t 0 (y p1 0)) t 1 ((g_mi y t 0 (y p1 0)) p1 1)) t 2 ((g_mi (g_mi y t 0 (y p1 0)) t 1 ((g_mi y t 0 (y p1 0)) p1 1)) p1 2)) t 5 ((g_mi (g_mi (g_mi y t 0 (y p1 0)) t 1 ((g_mi y t 0 (y p1 0)) p1 1)) t 2 ((g_mi (g_mi y t 0 (y p1 0)) t 1 ((g_mi y t 0 (y p1 0)) p1 1)) p1 2)) p1 5)) t 12 ((g_mi (g_mi (g_mi (g_mi y t 0 (y p1 0)) t 1 ((g_mi y t 0 (y p1 0)) p1 1)) t 2 ((g_mi (g_mi y t 0 (y p1 0)) t 1 ((g_mi y t 0 (y p1 0)) p1 1)) p1 2)) t 5 ((g_mi (g_mi (g_mi y t 0 (y p1 0)) t 1 ((g_mi y t 0 (y p1 0)) p1 1)) t 2 ((g_mi (g_mi y t 0 (y p1 0)) t 1 ((g_mi y t 0 (y p1 0)) p1 1)) p1 2)) p1 5)) p1 12)) (p1 + 1) (t + 1) 10) (p1 + 2) (t + 2) 240) (p1 + 3) (t + 3) 17) (p1 + 4) (t + 4) 17) (p1 + 5) (t + 5) 17) (p1 + 6) (t + 6) 17) (p1 + 7) (t + 7) 17) (p1 + 8) (t + 8) 17) (p1 + 9) (t + 9) 800) (p1 + 10) (t + 10) 800) (p1 + 11) (t + 11) 800)
def f_X15_thrown (y : MS) : Option (Int32) :=
  some (y 120 0)
def f_X15_no (p1 : Int32) (y : MS) : Option (Int32 × MS) :=
  some (((0 : Int32), g_mi y 120 0 p1))
def f_X15_isNot (p1 : Int32) (y : MS) : Option (Int32 × MS) :=
  some (((0 : Int32), g_mi y 120 0 p1))
def f_X15_ok (p1 : Int32) (y : MS) : Option (Int32 × MS) :=
  some ((p1, g_mi y 120 0 (0 : Int32)))
def f_X15_isIn (p1 : Int32) (p2 : Int32) (p3 : Int32) : Option (Int32) :=
  if p1 < p2 then (some ((0 : Int32))) else (if p3 < p1 then (some ((0 : Int32))) else (some ((1 : Int32))))
def f_X15_isLetter (p1 : Int32) : Option (Int32) :=
  (f_X15_isIn p1 (97 : Int32) (122 : Int32)).bind fun q1 => if q1 = 0 ∨ q1 = 1 then (some (q1)) else none
def f_X15_isDigit (p1 : Int32) : Option (Int32) :=
  (f_X15_isIn p1 (48 : Int32) (57 : Int32)).bind fun q1 => if q1 = 0 ∨ q1 = 1 then (some (q1)) else none
def f_X15_byteAt (p1 : Int32) (y : MS) : Option (Int32) :=
  if (y 120 2) ≤ p1 then (some ((-1 : Int32))) else (if g_ok p1 2000 = true then (some (y 121 p1.toNatClampNeg)) else none)
def f_X15_isWord_13 (y : MS) : Nat → Int32 → Int32 → Nat → Int32 → Option (Int32)
  | 0, _, _, _, _ => none
  | n + 1, l1, l2, l3, l4 => if l2 ≤ l4 then (some ((1 : Int32))) else (if l3 < 72 then ((f_J0_charAt_5068e l3 l4).bind fun q5 => if g_ok (l1 + l4) 2000 = true then (if q5 = (y 121 (l1 + l4).toNatClampNeg) then (f_X15_isWord_13 y n l1 l2 l3 (l4 + (1 : Int32))) else (some ((0 : Int32)))) else none) else none)
def f_X15_isWord (p1 : Int32) (p2 : Int32) (p3 : Nat) (y : MS) : Option (Int32) :=
  if p3 < 72 then ((f_J0_length_8abf5 p3).bind fun q1 => if q1 = p2 then (f_X15_isWord_13 y g_fuel p1 p2 p3 (0 : Int32)) else (some ((0 : Int32)))) else none
def f_X15_keyword_2 (y : MS) : Nat → Int32 → Int32 → Int32 → Option (Int32)
  | 0, _, _, _ => none
  | n + 1, l1, l2, l3 => if (26 : Int32) ≤ l3 then (if l2 ≤ (10 : Int32) then (some ((30 : Int32))) else (some ((32 : Int32)))) else (if g_ok l3 26 = true then ((f_X15_isWord l1 l2 (46 + l3.toNatClampNeg) y).bind fun q4 => if q4 = 0 then (f_X15_keyword_2 y n l1 l2 (l3 + (1 : Int32))) else (some (l3))) else none)
def f_X15_keyword (p1 : Int32) (p2 : Int32) (y : MS) : Option (Int32) :=
  f_X15_keyword_2 y g_fuel p1 p2 (0 : Int32)
def f_X15_symbol (p1 : Int32) : Option (Int32) :=
  if p1 = (40 : Int32) then (some ((49 : Int32))) else (if p1 = (41 : Int32) then (some ((50 : Int32))) else (if p1 = (42 : Int32) then (some ((42 : Int32))) else (if p1 = (43 : Int32) then (some ((40 : Int32))) else (if p1 = (44 : Int32) then (some ((54 : Int32))) else (if p1 = (45 : Int32) then (some ((41 : Int32))) else (if p1 = (46 : Int32) then (some ((32 : Int32))) else (if p1 = (47 : Int32) then (some ((43 : Int32))) else (if p1 = (48 : Int32) then (some ((32 : Int32))) else (if p1 = (49 : Int32) then (some ((32 : Int32))) else (if p1 = (50 : Int32) then (some ((32 : Int32))) else (if p1 = (51 : Int32) then (some ((32 : Int32))) else (if p1 = (52 : Int32) then (some ((32 : Int32))) else (if p1 = (53 : Int32) then (some ((32 : Int32))) else (if p1 = (54 : Int32) then (some ((32 : Int32))) else (if p1 = (55 : Int32) then (some ((32 : Int32))) else (if p1 = (56 : Int32) then (some ((32 : Int32))) else (if p1 = (57 : Int32) then (some ((32 : Int32))) else (if p1 = (58 : Int32) then (some ((32 : Int32))) else (if p1 = (59 : Int32) then (some ((53 : Int32))) else (if p1 = (60 : Int32) then (some ((44 : Int32))) else (if p1 = (61 : Int32) then (some ((46 : Int32))) else (if p1 = (62 : Int32) then (some ((45 : Int32))) else (if p1 = (63 : Int32) then (some ((32 : Int32))) else (if p1 = (64 : Int32) then (some ((32 : Int32))) else (if p1 = (65 : Int32) then (some ((32 : Int32))) else (if p1 = (66 : Int32) then (some ((32 : Int32))) else (if p1 = (67 : Int32) then (some ((32 : Int32))) else (if p1 = (68 : Int32) then (some ((32 : Int32))) else (if p1 = (69 : Int32) then (some ((32 : Int32))) else (if p1 = (70 : Int32) then (some ((32 : Int32))) else (if p1 = (71 : Int32) then (some ((32 : Int32))) else (if p1 = (72 : Int32) then (some ((32 : Int32))) else (if p1 = (73 : Int32) then (some ((32 : Int32))) else (if p1 = (74 : Int32) then (some ((32 : Int32))) else (if p1 = (75 : Int32) then (some ((32 : Int32))) else (if p1 = (76 : Int32) then (some ((32 : Int32))) else (if p1 = (77 : Int32) then (some ((32 : Int32))) else (if p1 = (78 : Int32) then (some ((32 : Int32))) else (if p1 = (79 : Int32) then (some ((32 : Int32))) else (if p1 = (80 : Int32) then (some ((32 : Int32))) else (if p1 = (81 : Int32) then (some ((32 : Int32))) else (if p1 = (82 : Int32) then (some ((32 : Int32))) else (if p1 = (83 : Int32) then (some ((32 : Int32))) else (if p1 = (84 : Int32) then (some ((32 : Int32))) else (if p1 = (85 : Int32) then (some ((32 : Int32))) else (if p1 = (86 : Int32) then (some ((32 : Int32))) else (if p1 = (87 : Int32) then (some ((32 : Int32))) else (if p1 = (88 : Int32) then (some ((32 : Int32))) else (if p1 = (89 : Int32) then (some ((32 : Int32))) else (if p1 = (90 : Int32) then (some ((32 : Int32))) else (if p1 = (91 : Int32) then (some ((51 : Int32))) else (if p1 = (92 : Int32) then (some ((32 : Int32))) else (if p1 = (93 : Int32) then (some ((52 : Int32))) else (some ((32 : Int32))))))))))))))))))))))))))))))))))))))))))))))))))))))))
def f_X15_read_239 (l1 : Int32) (l2 : Int32) (l4 : Int32) (y : MS) : Option (Int32 × MS) :=
  if g_ok l2 402 = true then (some ((l4, g_mi y 125 l2.toNatClampNeg (l4 - l1)))) else none
def f_X15_read_235 (l1 : Int32) (l2 : Int32) (l4 : Int32) (s0 : Int32) (s1 : Int32) (y : MS) : Option (Int32 × MS) :=
  if g_ok s1 402 = true then (f_X15_read_239 l1 l2 (l4 + (1 : Int32)) (g_mi y 122 s1.toNatClampNeg s0)) else none
def f_X15_read_201 (l1 : Int32) (l2 : Int32) (l4 : Int32) (y : MS) : Option (Int32 × MS) :=
  (f_X15_byteAt l4 y).bind fun q13 => if q13 = (61 : Int32) then (if g_ok l2 402 = true then (if (y 122 l2.toNatClampNeg) = (44 : Int32) then (f_X15_read_235 l1 l2 l4 (47 : Int32) l2 y) else (f_X15_read_235 l1 l2 l4 (48 : Int32) l2 y)) else none) else (f_X15_read_239 l1 l2 l4 y)
def f_X15_read_165 (l1 : Int32) (l2 : Int32) (l4 : Int32) (s0 : Int32) (s1 : Int32) (y : MS) : Option (Int32 × MS) :=
  if g_ok s1 402 = true then (f_X15_read_239 l1 l2 l4 (g_mi y 122 s1.toNatClampNeg s0)) else none
def f_X15_read_87  : Nat → Int32 → Int32 → Int32 → Int32 → MS → Option (Int32 × MS)
  | 0, _, _, _, _, _ => none
  | n + 1, l1, l2, l4, l5, y => (f_X15_byteAt l4 y).bind fun q18 => (f_X15_isDigit q18).bind fun q19 => if q19 = 0 then (if g_ok l2 402 = true then (if (l4 - l1) ≤ (6 : Int32) then (f_X15_read_165 l1 l2 l4 (31 : Int32) l2 (g_mi y 123 l2.toNatClampNeg l5)) else (f_X15_read_165 l1 l2 l4 (32 : Int32) l2 (g_mi y 123 l2.toNatClampNeg l5))) else none) else (if (7 : Int32) ≤ (l4 - l1) then (f_X15_read_87 n l1 l2 (l4 + (1 : Int32)) l5 y) else ((f_X15_byteAt l4 y).bind fun q24 => f_X15_read_87 n l1 l2 (l4 + (1 : Int32)) ((((10 : Int32) * l5) + q24) - (48 : Int32)) y))
def f_X15_read_26  : Nat → Int32 → Int32 → Int32 → MS → Option (Int32 × MS)
  | 0, _, _, _, _ => none
  | n + 1, l1, l2, l4, y => (f_X15_byteAt l4 y).bind fun q25 => (f_X15_isLetter q25).bind fun q26 => if q26 = 0 then ((f_X15_byteAt l4 y).bind fun q28 => (f_X15_isDigit q28).bind fun q29 => if q29 = 0 then ((f_X15_keyword l1 (l4 - l1) y).bind fun q31 => if g_ok l2 402 = true then (f_X15_read_239 l1 l2 l4 (g_mi y 122 l2.toNatClampNeg q31)) else none) else (f_X15_read_26 n l1 l2 (l4 + (1 : Int32)) y)) else (f_X15_read_26 n l1 l2 (l4 + (1 : Int32)) y)
def f_X15_read (p1 : Int32) (p2 : Int32) (y : MS) : Option (Int32 × MS) :=
  if g_ok p1 2000 = true then (if g_ok p2 402 = true then ((f_X15_isLetter (y 121 p1.toNatClampNeg)).bind fun q3 => if q3 = 0 then ((f_X15_isDigit (y 121 p1.toNatClampNeg)).bind fun q5 => if q5 = 0 then ((f_X15_symbol (y 121 p1.toNatClampNeg)).bind fun q7 => if g_ok p2 402 = true then (if g_ok p2 402 = true then (if ((g_mi (g_mi y 124 p2.toNatClampNeg p1) 122 p2.toNatClampNeg q7) 122 p2.toNatClampNeg) = (44 : Int32) then (f_X15_read_201 p1 p2 (p1 + (1 : Int32)) (g_mi (g_mi y 124 p2.toNatClampNeg p1) 122 p2.toNatClampNeg q7)) else (if g_ok p2 402 = true then (if ((g_mi (g_mi y 124 p2.toNatClampNeg p1) 122 p2.toNatClampNeg q7) 122 p2.toNatClampNeg) = (45 : Int32) then (f_X15_read_201 p1 p2 (p1 + (1 : Int32)) (g_mi (g_mi y 124 p2.toNatClampNeg p1) 122 p2.toNatClampNeg q7)) else (f_X15_read_239 p1 p2 (p1 + (1 : Int32)) (g_mi (g_mi y 124 p2.toNatClampNeg p1) 122 p2.toNatClampNeg q7))) else none)) else none) else none) else (f_X15_read_87 g_fuel p1 p2 (p1 + (1 : Int32)) ((y 121 p1.toNatClampNeg) - (48 : Int32)) (g_mi y 124 p2.toNatClampNeg p1))) else (f_X15_read_26 g_fuel p1 p2 (p1 + (1 : Int32)) (g_mi y 124 p2.toNatClampNeg p1))) else none) else none
def f_X15_skip_2 (y : MS) : Nat → Int32 → Option (Int32)
  | 0, _ => none
  | n + 1, l2 => (f_X15_byteAt l2 y).bind fun q1 => if q1 = (32 : Int32) then (f_X15_skip_2 y n (l2 + (1 : Int32))) else ((f_X15_byteAt l2 y).bind fun q3 => if q3 = (10 : Int32) then (f_X15_skip_2 y n (l2 + (1 : Int32))) else (some (l2)))
def f_X15_skip (p1 : Int32) (y : MS) : Option (Int32) :=
  f_X15_skip_2 y g_fuel p1
def f_X15_readAll_65 (l2 : Int32) (y : MS) : Option (MS) :=
  if g_ok l2 402 = true then (if g_ok l2 402 = true then (some (g_mi (g_mi y 122 l2.toNatClampNeg (33 : Int32)) 124 l2.toNatClampNeg ((g_mi y 122 l2.toNatClampNeg (33 : Int32)) 120 2))) else none) else none
def f_X15_readAll_33 (k8 : Int32 → Int32 → MS → Option (MS)) (l1 : Int32) (l2 : Int32) (y : MS) : Option (MS) :=
  (f_X15_read l1 l2 y).bind fun q8 => (f_X15_skip q8.1 q8.2).bind fun q9 => if l2 = (400 : Int32) then (if g_ok l2 402 = true then (k8 q9 (l2 + (1 : Int32)) (g_mi q8.2 122 l2.toNatClampNeg (32 : Int32))) else none) else (k8 q9 (l2 + (1 : Int32)) q8.2)
def f_X15_readAll_8  : Nat → Int32 → Int32 → MS → Option (MS)
  | 0, _, _, _ => none
  | n + 1, l1, l2, y => if (y 120 2) ≤ l1 then (f_X15_readAll_65 l2 y) else (if l2 = 0 then (f_X15_readAll_33 (f_X15_readAll_8 n) l1 l2 y) else (if g_ok (l2 - (1 : Int32)) 402 = true then (if (y 122 (l2 - (1 : Int32)).toNatClampNeg) = (32 : Int32) then (f_X15_readAll_65 l2 y) else (f_X15_readAll_33 (f_X15_readAll_8 n) l1 l2 y)) else none))
def f_X15_readAll (y : MS) : Option (MS) :=
  (f_X15_skip (0 : Int32) y).bind fun q1 => f_X15_readAll_8 g_fuel q1 (0 : Int32) y
def f_X15_is (p1 : Int32) (y : MS) : Option (Int32) :=
  if (y 120 9) = 0 then (if g_ok (y 120 8) 402 = true then (if (y 122 (y 120 8).toNatClampNeg) = p1 then (some ((1 : Int32))) else (some ((0 : Int32)))) else none) else (some ((0 : Int32)))
def f_X15_wrong (y : MS) : Option (MS) :=
  if (y 120 9) = 0 then (some (g_mi (g_mi (g_mi y 120 9 (1 : Int32)) 120 10 (1 : Int32)) 120 11 ((g_mi (g_mi y 120 9 (1 : Int32)) 120 10 (1 : Int32)) 120 8))) else (some (y))
def f_X15_take (p1 : Int32) (y : MS) : Option (MS) :=
  (f_X15_is p1 y).bind fun q1 => if q1 = 0 then ((f_X15_wrong y).bind fun q3 => some (q3)) else (some (g_mi y 120 8 ((y 120 8) + (1 : Int32))))
def f_X15_takes (p1 : Int32) (y : MS) : Option (Int32 × MS) :=
  (f_X15_is p1 y).bind fun q1 => if q1 = 0 then (some (((0 : Int32), y))) else (some (((1 : Int32), g_mi y 120 8 ((y 120 8) + (1 : Int32)))))
def f_X15_deeper (y : MS) : Option (MS) :=
  if (y 120 12) = (8 : Int32) then ((f_X15_wrong y).bind fun q2 => some (g_mi q2 120 12 ((q2 120 12) + (1 : Int32)))) else (some (g_mi (g_mi y 120 8 ((y 120 8) + (1 : Int32))) 120 12 (((g_mi y 120 8 ((y 120 8) + (1 : Int32))) 120 12) + (1 : Int32))))
def f_X15_mark (p1 : Int32) (y : MS) : Option (MS) :=
  if (y 120 9) = 0 then (if (y 120 10) = 0 then (some (g_mi (g_mi y 120 10 p1) 120 11 ((g_mi y 120 10 p1) 120 8))) else (some (y))) else (some (y))
def f_X15_node (p1 : Int32) (p2 : Int32) (p3 : Int32) (y : MS) : Option (Int32 × MS) :=
  if g_ok (y 139 12) 800 = true then (if g_ok (y 139 12) 800 = true then (if g_ok (y 139 12) 800 = true then (some ((y 139 12, g_mi (g_mi (g_mi (g_mi y 148 (y 139 12).toNatClampNeg p1) 149 (y 139 12).toNatClampNeg p2) 150 (y 139 12).toNatClampNeg p3) 139 12 (((g_mi (g_mi (g_mi y 148 (y 139 12).toNatClampNeg p1) 149 (y 139 12).toNatClampNeg p2) 150 (y 139 12).toNatClampNeg p3) 139 12) + (1 : Int32))))) else none) else none) else none
def f_X15_isSameName_19 (y : MS) : Nat → Int32 → Int32 → Int32 → Option (Int32)
  | 0, _, _, _ => none
  | n + 1, l1, l2, l3 => if g_ok l1 402 = true then (if (y 125 l1.toNatClampNeg) ≤ l3 then (some ((1 : Int32))) else (if g_ok l1 402 = true then (if g_ok ((y 124 l1.toNatClampNeg) + l3) 2000 = true then (if g_ok l2 402 = true then (if g_ok ((y 124 l2.toNatClampNeg) + l3) 2000 = true then (if (y 121 ((y 124 l1.toNatClampNeg) + l3).toNatClampNeg) = (y 121 ((y 124 l2.toNatClampNeg) + l3).toNatClampNeg) then (f_X15_isSameName_19 y n l1 l2 (l3 + (1 : Int32))) else (some ((0 : Int32)))) else none) else none) else none) else none)) else none
def f_X15_isSameName (p1 : Int32) (p2 : Int32) (y : MS) : Option (Int32) :=
  if g_ok p1 402 = true then (if g_ok p2 402 = true then (if (y 125 p1.toNatClampNeg) = (y 125 p2.toNatClampNeg) then (f_X15_isSameName_19 y g_fuel p1 p2 (0 : Int32)) else (some ((0 : Int32)))) else none) else none
def f_X15_known_2 (y : MS) : Nat → Int32 → Option (Int32)
  | 0, _ => none
  | n + 1, l1 => if (y 139 2) ≤ l1 then (some ((-1 : Int32))) else (if g_ok l1 8 = true then ((f_X15_isSameName (y 126 l1.toNatClampNeg) (y 120 8) y).bind fun q3 => if q3 = 0 then (f_X15_known_2 y n (l1 + (1 : Int32))) else (some (l1))) else none)
def f_X15_known (y : MS) : Option (Int32) :=
  f_X15_known_2 y g_fuel (0 : Int32)
def f_X15_name_28 (l1 : Int32) (y : MS) : Option (Int32 × MS) :=
  (f_X15_take (30 : Int32) y).bind fun q6 => (f_J9_max_7cf53 (0 : Int32) l1).bind fun q7 => some ((q7, q6))
def f_X15_name_17 (s0 : Int32) (y : MS) : Option (Int32 × MS) :=
  if s0 = (-1 : Int32) then ((f_X15_mark (3 : Int32) y).bind fun q5 => f_X15_name_28 s0 q5) else (f_X15_name_28 s0 y)
def f_X15_name (y : MS) : Option (Int32 × MS) :=
  (f_X15_is (30 : Int32) y).bind fun q1 => if q1 = 0 then (f_X15_name_17 (0 : Int32) y) else ((f_X15_known y).bind fun q3 => f_X15_name_17 q3 y)
def f_X15_product_23 (val : MS → Option (Int32 × MS)) (k5 : Int32 → MS → Option (Int32 × MS)) (l1 : Int32) (y : MS) : Option (Int32 × MS) :=
  if g_ok (y 120 8) 402 = true then ((val (g_mi y 120 8 ((y 120 8) + (1 : Int32)))).bind fun q7 => (f_X15_node (y 122 (y 120 8).toNatClampNeg) l1 q7.1 q7.2).bind fun q8 => k5 q8.1 q8.2) else none
def f_X15_product_5 (val : MS → Option (Int32 × MS)) : Nat → Int32 → MS → Option (Int32 × MS)
  | 0, _, _ => none
  | n + 1, l1, y => (f_X15_is (42 : Int32) y).bind fun q2 => if q2 = 0 then ((f_X15_is (43 : Int32) y).bind fun q4 => if q4 = 0 then (some ((l1, y))) else (f_X15_product_23 val (f_X15_product_5 val n) l1 y)) else (f_X15_product_23 val (f_X15_product_5 val n) l1 y)
def f_X15_product (val : MS → Option (Int32 × MS)) (y : MS) : Option (Int32 × MS) :=
  (val y).bind fun q1 => f_X15_product_5 val g_fuel q1.1 q1.2
def f_X15_sum_23 (val : MS → Option (Int32 × MS)) (k5 : Int32 → MS → Option (Int32 × MS)) (l1 : Int32) (y : MS) : Option (Int32 × MS) :=
  if g_ok (y 120 8) 402 = true then ((f_X15_product val (g_mi y 120 8 ((y 120 8) + (1 : Int32)))).bind fun q7 => (f_X15_node (y 122 (y 120 8).toNatClampNeg) l1 q7.1 q7.2).bind fun q8 => k5 q8.1 q8.2) else none
def f_X15_sum_5 (val : MS → Option (Int32 × MS)) : Nat → Int32 → MS → Option (Int32 × MS)
  | 0, _, _ => none
  | n + 1, l1, y => (f_X15_is (40 : Int32) y).bind fun q2 => if q2 = 0 then ((f_X15_is (41 : Int32) y).bind fun q4 => if q4 = 0 then (some ((l1, y))) else (f_X15_sum_23 val (f_X15_sum_5 val n) l1 y)) else (f_X15_sum_23 val (f_X15_sum_5 val n) l1 y)
def f_X15_sum (val : MS → Option (Int32 × MS)) (y : MS) : Option (Int32 × MS) :=
  (f_X15_product val y).bind fun q1 => f_X15_sum_5 val g_fuel q1.1 q1.2
def f_X15_inBrackets (val : MS → Option (Int32 × MS)) (y : MS) : Option (Int32 × MS) :=
  (f_X15_deeper y).bind fun q1 => (f_X15_sum val q1).bind fun q2 => (f_X15_take (50 : Int32) q2.2).bind fun q3 => some ((q2.1, g_mi q3 120 12 ((q3 120 12) - (1 : Int32))))
def f_X15_ofTwo (val : MS → Option (Int32 × MS)) (p1 : Int32) (y : MS) : Option (Int32 × MS) :=
  (f_X15_is (49 : Int32) (g_mi y 120 8 ((y 120 8) + (1 : Int32)))).bind fun q1 => if q1 = 0 then ((f_X15_wrong (g_mi y 120 8 ((y 120 8) + (1 : Int32)))).bind fun q9 => some (((0 : Int32), q9))) else ((f_X15_deeper (g_mi y 120 8 ((y 120 8) + (1 : Int32)))).bind fun q3 => (f_X15_sum val q3).bind fun q4 => (f_X15_take (54 : Int32) q4.2).bind fun q5 => (f_X15_sum val q5).bind fun q6 => (f_X15_take (50 : Int32) q6.2).bind fun q7 => (f_X15_node p1 q4.1 q6.1 (g_mi q7 120 12 ((q7 120 12) - (1 : Int32)))).bind fun q8 => some ((q8.1, q8.2)))
def f_X15_value_157 (val : MS → Option (Int32 × MS)) (y : MS) : Option (Int32 × MS) :=
  if g_ok (y 120 8) 402 = true then ((f_X15_ofTwo val (y 122 (y 120 8).toNatClampNeg) y).bind fun q33 => some ((q33.1, q33.2))) else none
def f_X15_value_102 (val : MS → Option (Int32 × MS)) (y : MS) : Option (Int32 × MS) :=
  if g_ok (y 120 8) 402 = true then ((f_X15_take (18 : Int32) (g_mi y 120 8 ((y 120 8) + (1 : Int32)))).bind fun q29 => (f_X15_name q29).bind fun q30 => (f_X15_node (y 122 (y 120 8).toNatClampNeg) q30.1 (0 : Int32) q30.2).bind fun q31 => some ((q31.1, q31.2))) else none
def f_X15_value_56 (val : MS → Option (Int32 × MS)) (y : MS) : Option (Int32 × MS) :=
  if g_ok (((g_mi y 120 8 ((y 120 8) + (1 : Int32))) 120 8) - (1 : Int32)) 402 = true then ((f_X15_node ((g_mi y 120 8 ((y 120 8) + (1 : Int32))) 122 (((g_mi y 120 8 ((y 120 8) + (1 : Int32))) 120 8) - (1 : Int32)).toNatClampNeg) (0 : Int32) (0 : Int32) (g_mi y 120 8 ((y 120 8) + (1 : Int32)))).bind fun q27 => some ((q27.1, q27.2))) else none
def f_X15_value : Nat → MS → Option (Int32 × MS)
  | 0, _ => none
  | n + 1, y => (f_X15_is (31 : Int32) y).bind fun q1 => if q1 = 0 then ((f_X15_is (14 : Int32) y).bind fun q3 => if q3 = 0 then ((f_X15_is (15 : Int32) y).bind fun q5 => if q5 = 0 then ((f_X15_is (16 : Int32) y).bind fun q7 => if q7 = 0 then ((f_X15_is (17 : Int32) y).bind fun q9 => if q9 = 0 then ((f_X15_is (24 : Int32) y).bind fun q11 => if q11 = 0 then ((f_X15_is (25 : Int32) y).bind fun q13 => if q13 = 0 then ((f_X15_is (49 : Int32) y).bind fun q15 => if q15 = 0 then ((f_X15_is (41 : Int32) y).bind fun q17 => if q17 = 0 then ((f_X15_wrong y).bind fun q22 => some (((0 : Int32), q22))) else ((f_X15_deeper y).bind fun q19 => (f_X15_value n q19).bind fun q20 => (f_X15_node (60 : Int32) q20.1 (0 : Int32) (g_mi q20.2 120 12 ((q20.2 120 12) - (1 : Int32)))).bind fun q21 => some ((q21.1, q21.2)))) else ((f_X15_inBrackets (f_X15_value n) y).bind fun q23 => some ((q23.1, q23.2)))) else (f_X15_value_157 (f_X15_value n) y)) else (f_X15_value_157 (f_X15_value n) y)) else (f_X15_value_102 (f_X15_value n) y)) else (f_X15_value_102 (f_X15_value n) y)) else (f_X15_value_56 (f_X15_value n) y)) else (f_X15_value_56 (f_X15_value n) y)) else (if g_ok (((g_mi y 120 8 ((y 120 8) + (1 : Int32))) 120 8) - (1 : Int32)) 402 = true then ((f_X15_node (31 : Int32) ((g_mi y 120 8 ((y 120 8) + (1 : Int32))) 123 (((g_mi y 120 8 ((y 120 8) + (1 : Int32))) 120 8) - (1 : Int32)).toNatClampNeg) (0 : Int32) (g_mi y 120 8 ((y 120 8) + (1 : Int32)))).bind fun q25 => some ((q25.1, q25.2))) else none)
def f_X15_comparison_33 (y : MS) : Option (Int32 × MS) :=
  (f_X15_wrong y).bind fun q8 => some (((0 : Int32), q8))
def f_X15_comparison (y : MS) : Option (Int32 × MS) :=
  (f_X15_sum (f_X15_value 12) y).bind fun q1 => if g_ok (q1.2 120 8) 402 = true then (if (q1.2 120 9) = 0 then ((f_X15_isIn (q1.2 122 (q1.2 120 8).toNatClampNeg) (44 : Int32) (48 : Int32)).bind fun q4 => if q4 = 0 then (f_X15_comparison_33 q1.2) else ((f_X15_sum (f_X15_value 12) (g_mi q1.2 120 8 ((q1.2 120 8) + (1 : Int32)))).bind fun q6 => (f_X15_node (q1.2 122 (q1.2 120 8).toNatClampNeg) q1.1 q6.1 q6.2).bind fun q7 => some ((q7.1, q7.2)))) else (f_X15_comparison_33 q1.2)) else none
def f_X15_both_5 (sgl : MS → Option (Int32 × MS)) : Nat → Int32 → MS → Option (Int32 × MS)
  | 0, _, _ => none
  | n + 1, l1, y => (f_X15_takes (22 : Int32) y).bind fun q2 => if q2.1 = 0 then (some ((l1, q2.2))) else ((sgl q2.2).bind fun q4 => (f_X15_node (22 : Int32) l1 q4.1 q4.2).bind fun q5 => f_X15_both_5 sgl n q5.1 q5.2)
def f_X15_both (sgl : MS → Option (Int32 × MS)) (y : MS) : Option (Int32 × MS) :=
  (sgl y).bind fun q1 => f_X15_both_5 sgl g_fuel q1.1 q1.2
def f_X15_test_5 (sgl : MS → Option (Int32 × MS)) : Nat → Int32 → MS → Option (Int32 × MS)
  | 0, _, _ => none
  | n + 1, l1, y => (f_X15_takes (23 : Int32) y).bind fun q2 => if q2.1 = 0 then (some ((l1, q2.2))) else ((f_X15_both sgl q2.2).bind fun q4 => (f_X15_node (23 : Int32) l1 q4.1 q4.2).bind fun q5 => f_X15_test_5 sgl n q5.1 q5.2)
def f_X15_test (sgl : MS → Option (Int32 × MS)) (y : MS) : Option (Int32 × MS) :=
  (f_X15_both sgl y).bind fun q1 => f_X15_test_5 sgl g_fuel q1.1 q1.2
def f_X15_single : Nat → MS → Option (Int32 × MS)
  | 0, _ => none
  | n + 1, y => (f_X15_is (21 : Int32) y).bind fun q1 => if q1 = 0 then ((f_X15_is (51 : Int32) y).bind fun q3 => if q3 = 0 then ((f_X15_takes (19 : Int32) y).bind fun q5 => if q5.1 = 0 then ((f_X15_takes (20 : Int32) q5.2).bind fun q7 => if q7.1 = 0 then ((f_X15_comparison q7.2).bind fun q9 => some ((q9.1, q9.2))) else ((f_X15_name q7.2).bind fun q10 => (f_X15_node (20 : Int32) q10.1 (0 : Int32) q10.2).bind fun q11 => some ((q11.1, q11.2)))) else ((f_X15_name q5.2).bind fun q12 => (f_X15_node (19 : Int32) q12.1 (0 : Int32) q12.2).bind fun q13 => some ((q13.1, q13.2)))) else ((f_X15_deeper y).bind fun q14 => (f_X15_test (f_X15_single n) q14).bind fun q15 => (f_X15_take (52 : Int32) q15.2).bind fun q16 => some ((q15.1, g_mi q16 120 12 ((q16 120 12) - (1 : Int32)))))) else ((f_X15_deeper y).bind fun q17 => (f_X15_single n q17).bind fun q18 => (f_X15_node (21 : Int32) q18.1 (0 : Int32) (g_mi q18.2 120 12 ((q18.2 120 12) - (1 : Int32)))).bind fun q19 => some ((q19.1, q19.2)))
def f_X15_numberIn_33 (l3 : Int32) (y : MS) : Option (Int32 × MS) :=
  (f_X15_take (31 : Int32) y).bind fun q7 => some ((l3, q7))
def f_X15_numberIn (p1 : Int32) (p2 : Int32) (y : MS) : Option (Int32 × MS) :=
  if g_ok (y 120 8) 402 = true then ((f_X15_is (31 : Int32) y).bind fun q2 => if q2 = 0 then (f_X15_numberIn_33 (y 123 (y 120 8).toNatClampNeg) y) else ((f_X15_isIn (y 123 (y 120 8).toNatClampNeg) p1 p2).bind fun q4 => if q4 = 0 then ((f_X15_mark (5 : Int32) y).bind fun q6 => f_X15_numberIn_33 (y 123 (y 120 8).toNatClampNeg) q6) else (f_X15_numberIn_33 (y 123 (y 120 8).toNatClampNeg) y))) else none
def f_X15_part_95  : Nat → Int32 → Int32 → Int32 → Int32 → Int32 → MS → Option (MS)
  | 0, _, _, _, _, _, _ => none
  | n + 1, l1, l2, l3, l4, l5, y => if l4 ≤ l5 then (some (y)) else (if (y 120 9) = 0 then (if (y 120 10) = 0 then (if g_ok l1 10 = true then (if ¬ l4 = 0 then (if g_ok (((24 : Int32) * l1) + (y 140 l1.toNatClampNeg)) 240 = true then (if g_ok l1 10 = true then (if g_ok l1 10 = true then (f_X15_part_95 n l1 l2 l3 l4 (l5 + (1 : Int32)) (g_mi (g_mi y 141 (((24 : Int32) * l1) + (y 140 l1.toNatClampNeg)).toNatClampNeg (l2 + (((l3 - l2) * l5) / l4))) 140 l1.toNatClampNeg (((g_mi y 141 (((24 : Int32) * l1) + (y 140 l1.toNatClampNeg)).toNatClampNeg (l2 + (((l3 - l2) * l5) / l4))) 140 l1.toNatClampNeg) + (1 : Int32)))) else none) else none) else none) else none) else none) else (some (y))) else (some (y)))
def f_X15_part_63 (l1 : Int32) (l2 : Int32) (l3 : Int32) (y : MS) : Option (MS) :=
  (f_X15_take (3 : Int32) y).bind fun q10 => if g_ok l1 10 = true then ((f_J9_min_7cf53 (9 : Int32) ((24 : Int32) - (q10 140 l1.toNatClampNeg))).bind fun q12 => (f_X15_numberIn (1 : Int32) q12 q10).bind fun q13 => f_X15_part_95 g_fuel l1 l2 l3 q13.1 (0 : Int32) q13.2) else none
def f_X15_part (p1 : Int32) (y : MS) : Option (MS) :=
  (f_X15_takes (2 : Int32) y).bind fun q1 => if q1.1 = 0 then ((f_X15_takes (4 : Int32) q1.2).bind fun q3 => if q3.1 = 0 then ((f_X15_take (6 : Int32) q3.2).bind fun q5 => f_X15_part_63 p1 (0 : Int32) (0 : Int32) q5) else ((f_X15_numberIn (1 : Int32) (40 : Int32) q3.2).bind fun q6 => (f_X15_take (5 : Int32) q6.2).bind fun q7 => (f_X15_numberIn (1 : Int32) (40 : Int32) q7).bind fun q8 => f_X15_part_63 p1 q6.1 q8.1 q8.2)) else ((f_X15_numberIn (1 : Int32) (40 : Int32) q1.2).bind fun q9 => f_X15_part_63 p1 q9.1 q9.1 q9.2)
def f_X15_word_106  : Nat → Int32 → MS → Option (MS)
  | 0, _, _ => none
  | n + 1, l1, y => (f_X15_takes (54 : Int32) y).bind fun q19 => if q19.1 = 0 then ((f_J9_min_7cf53 (8 : Int32) (l1 + (1 : Int32))).bind fun q21 => some (g_mi q19.2 139 2 q21)) else ((f_X15_part l1 q19.2).bind fun q22 => f_X15_word_106 n l1 q22)
def f_X15_word_80 (l1 : Int32) (y : MS) : Option (MS) :=
  (f_X15_take (30 : Int32) y).bind fun q15 => (f_X15_take (1 : Int32) q15).bind fun q16 => if g_ok l1 10 = true then ((f_X15_part l1 (g_mi q16 140 l1.toNatClampNeg (0 : Int32))).bind fun q18 => f_X15_word_106 g_fuel l1 q18) else none
def f_X15_word_55 (l1 : Int32) (y : MS) : Option (MS) :=
  (f_X15_is (30 : Int32) y).bind fun q11 => if q11 = 0 then (f_X15_word_80 l1 y) else (if (8 : Int32) ≤ l1 then (f_X15_word_80 l1 y) else (if g_ok l1 8 = true then (f_X15_word_80 l1 (g_mi y 126 l1.toNatClampNeg (y 120 8))) else none))
def f_X15_word_35 (l1 : Int32) (y : MS) : Option (MS) :=
  (f_X15_is (30 : Int32) y).bind fun q7 => if q7 = 0 then (f_X15_word_55 l1 y) else (if l1 = (8 : Int32) then ((f_X15_mark (4 : Int32) y).bind fun q10 => f_X15_word_55 l1 q10) else (f_X15_word_55 l1 y))
def f_X15_word (y : MS) : Option (MS) :=
  (f_J9_min_7cf53 (8 : Int32) (y 139 2)).bind fun q1 => (f_X15_is (30 : Int32) y).bind fun q2 => if q2 = 0 then (f_X15_word_35 q1 y) else ((f_X15_known y).bind fun q4 => if q4 = (-1 : Int32) then (f_X15_word_35 q1 y) else ((f_X15_mark (2 : Int32) y).bind fun q6 => f_X15_word_35 q1 q6))
def f_X15_rule_122 (l2 : Int32) (s0 : Int32) (s1 : Int32) (y : MS) : Option (MS) :=
  if g_ok s1 17 = true then (if g_ok l2 17 = true then ((f_J9_min_7cf53 (16 : Int32) (l2 + (1 : Int32))).bind fun q17 => some (g_mi (g_mi (g_mi y 147 s1.toNatClampNeg s0) 145 l2.toNatClampNeg ((g_mi y 147 s1.toNatClampNeg s0) 139 12)) 139 5 q17)) else none) else none
def f_X15_rule_97 (l2 : Int32) (y : MS) : Option (MS) :=
  (f_X15_takes (13 : Int32) y).bind fun q12 => if q12.1 = 0 then (f_X15_rule_122 l2 (-1 : Int32) l2 q12.2) else ((f_X15_test (f_X15_single 12) q12.2).bind fun q14 => f_X15_rule_122 l2 q14.1 l2 q14.2)
def f_X15_rule_24 (l1 : Int32) (l2 : Int32) (y : MS) : Option (MS) :=
  if g_ok l2 17 = true then (if g_ok l2 17 = true then ((f_X15_name (g_mi (g_mi (g_mi y 120 8 ((y 120 8) + (1 : Int32))) 144 l2.toNatClampNeg ((g_mi y 120 8 ((y 120 8) + (1 : Int32))) 139 12)) 142 l2.toNatClampNeg l1)).bind fun q6 => if g_ok l2 17 = true then (if l1 = (2 : Int32) then ((f_X15_take (12 : Int32) (g_mi q6.2 143 l2.toNatClampNeg q6.1)).bind fun q9 => (f_X15_sum (f_X15_value 12) q9).bind fun q10 => if g_ok l2 17 = true then (f_X15_rule_97 l2 (g_mi q10.2 146 l2.toNatClampNeg q10.1)) else none) else (f_X15_rule_97 l2 (g_mi q6.2 143 l2.toNatClampNeg q6.1))) else none) else none) else none
def f_X15_rule (p1 : Int32) (y : MS) : Option (MS) :=
  (f_J9_min_7cf53 (16 : Int32) (y 139 5)).bind fun q1 => if q1 = (16 : Int32) then ((f_X15_mark (4 : Int32) y).bind fun q3 => f_X15_rule_24 p1 q1 q3) else (f_X15_rule_24 p1 q1 y)
def f_X15_line (y : MS) : Option (MS) :=
  (f_X15_takes (0 : Int32) y).bind fun q1 => if q1.1 = 0 then ((f_X15_takes (7 : Int32) q1.2).bind fun q3 => if q3.1 = 0 then ((f_X15_takes (8 : Int32) q3.2).bind fun q5 => if q5.1 = 0 then ((f_X15_is (9 : Int32) q5.2).bind fun q7 => if q7 = 0 then ((f_X15_is (10 : Int32) q5.2).bind fun q9 => if q9 = 0 then ((f_X15_is (11 : Int32) q5.2).bind fun q11 => if q11 = 0 then ((f_X15_wrong q5.2).bind fun q13 => some (q13)) else ((f_X15_rule (2 : Int32) q5.2).bind fun q14 => some (q14))) else ((f_X15_rule (1 : Int32) q5.2).bind fun q15 => some (q15))) else ((f_X15_rule (0 : Int32) q5.2).bind fun q16 => some (q16))) else ((f_X15_numberIn (0 : Int32) (99 : Int32) q5.2).bind fun q17 => some (g_mi q17.2 139 1 q17.1))) else ((f_X15_numberIn (0 : Int32) (20 : Int32) q3.2).bind fun q18 => some (g_mi q18.2 139 0 q18.1))) else ((f_X15_word q1.2).bind fun q19 => some (q19))
def f_X15_trim (p1 : Int32) (y : MS) : Option (Int32 × MS) :=
  (f_X15_isIn p1 (0 : Int32) ((g_mi y 120 0 (0 : Int32)) 120 2)).bind fun q1 => if q1 = 0 then ((f_X15_no (1 : Int32) (g_mi y 120 0 (0 : Int32))).bind fun q3 => some ((q3.1, q3.2))) else (some ((p1, g_mi (g_mi y 120 0 (0 : Int32)) 120 2 p1)))
def f_X15_teach_96 (s0 : Int32) (y : MS) : Option (Int32 × MS) :=
  if ((g_mi y 120 3 s0) 120 10) = 0 then ((f_X14_become 127 139 (g_mi y 120 3 s0)).bind fun q11 => (f_X13_begin 152 127 q11).bind fun q12 => some (((0 : Int32), q12))) else (some (((g_mi y 120 3 s0) 120 10, g_mi y 120 3 s0)))
def f_X15_teach_70 (y : MS) : Option (Int32 × MS) :=
  if ((g_mi y 120 2 (0 : Int32)) 120 10) = 0 then (f_X15_teach_96 (-1 : Int32) (g_mi y 120 2 (0 : Int32))) else (if g_ok ((g_mi y 120 2 (0 : Int32)) 120 11) 402 = true then (f_X15_teach_96 ((g_mi y 120 2 (0 : Int32)) 124 ((g_mi y 120 2 (0 : Int32)) 120 11).toNatClampNeg) (g_mi y 120 2 (0 : Int32))) else none)
def f_X15_teach_36  : Nat → MS → Option (Int32 × MS)
  | 0, _ => none
  | n + 1, y => if (y 120 9) = 0 then (if g_ok (y 120 8) 402 = true then (if (y 122 (y 120 8).toNatClampNeg) = (33 : Int32) then (f_X15_teach_70 y) else ((f_X15_line y).bind fun q6 => (f_X15_take (53 : Int32) q6).bind fun q7 => f_X15_teach_36 n q7)) else none) else (f_X15_teach_70 y)
def f_X15_teach (y : MS) : Option (Int32 × MS) :=
  (f_X14_begin 139 (g_mi (g_mi (g_mi (g_mi (g_mi y 120 0 (0 : Int32)) 120 8 (0 : Int32)) 120 9 (0 : Int32)) 120 10 (0 : Int32)) 120 12 (0 : Int32))).bind fun q1 => (f_X15_readAll q1).bind fun q2 => f_X15_teach_36 g_fuel q2
def f_X15_errorAt (y : MS) : Option (Int32 × MS) :=
  (f_X15_ok (y 120 3) y).bind fun q1 => some ((q1.1, q1.2))
def f_X15_contour (p1 : Nat) (p2 : Int32) (p3 : Int32) (y : MS) : Option (Int32) :=
  if g_ok p2 10 = true then (if (p3 + (1 : Int32)) < (y (p1 + 1) p2.toNatClampNeg) then (if g_ok ((((24 : Int32) * p2) + p3) + (1 : Int32)) 240 = true then (if g_ok (((24 : Int32) * p2) + p3) 240 = true then ((f_J6_signum_0f7a4 ((y (p1 + 2) ((((24 : Int32) * p2) + p3) + (1 : Int32)).toNatClampNeg) - (y (p1 + 2) (((24 : Int32) * p2) + p3).toNatClampNeg))).bind fun q5 => some (q5)) else none) else none) else (some ((0 : Int32)))) else none
def f_X15_cost_64 (y : MS) (l6 : Int32) (l7 : Int32) : Option (Int32) :=
  if l6 = l7 then (some ((0 : Int32))) else (some ((10 : Int32)))
def f_X15_cost (p1 : Nat) (p2 : Int32) (p3 : Int32) (p4 : Int32) (p5 : Int32) (p6 : Int32) (y : MS) : Option (Int32) :=
  if p6 = 0 then (if g_ok (((24 : Int32) * p2) + p3) 240 = true then (if g_ok (((24 : Int32) * p4) + p5) 240 = true then (if (y (p1 + 2) (((24 : Int32) * p2) + p3).toNatClampNeg) = 0 then (f_X15_cost_64 y (y (p1 + 2) (((24 : Int32) * p2) + p3).toNatClampNeg) (y (p1 + 2) (((24 : Int32) * p4) + p5).toNatClampNeg)) else (if (y (p1 + 2) (((24 : Int32) * p4) + p5).toNatClampNeg) = 0 then (f_X15_cost_64 y (y (p1 + 2) (((24 : Int32) * p2) + p3).toNatClampNeg) (y (p1 + 2) (((24 : Int32) * p4) + p5).toNatClampNeg)) else ((f_J9_abs_0f7a4 ((y (p1 + 2) (((24 : Int32) * p2) + p3).toNatClampNeg) - (y (p1 + 2) (((24 : Int32) * p4) + p5).toNatClampNeg))).bind fun q6 => some (q6)))) else none) else none) else ((f_X15_contour p1 p2 p3 y).bind fun q7 => (f_X15_contour p1 p4 p5 y).bind fun q8 => if q7 = q8 then (some ((0 : Int32))) else (some ((1 : Int32))))
def f_X15_way_205 (k37 : Nat → Int32 → Int32 → Int32 → Int32 → Int32 → Int32 → Int32 → MS → Option (Int32 × MS)) (k47 : Nat → Int32 → Int32 → Int32 → Int32 → Int32 → Int32 → Int32 → Int32 → MS → Option (Int32 × MS)) (l1 : Nat) (l2 : Int32) (l3 : Int32) (l4 : Int32) (l5 : Int32) (l6 : Int32) (l7 : Int32) (l8 : Int32) (l9 : Int32) (l10 : Int32) (y : MS) : Option (Int32 × MS) :=
  if g_ok (((24 : Int32) * l8) + l9) 576 = true then (k47 l1 l2 l3 l4 l5 l6 l7 l8 (l9 + (1 : Int32)) (g_mi y 160 (((24 : Int32) * l8) + l9).toNatClampNeg l10)) else none
def f_X15_way_177 (k37 : Nat → Int32 → Int32 → Int32 → Int32 → Int32 → Int32 → Int32 → MS → Option (Int32 × MS)) (k47 : Nat → Int32 → Int32 → Int32 → Int32 → Int32 → Int32 → Int32 → Int32 → MS → Option (Int32 × MS)) (l1 : Nat) (l2 : Int32) (l3 : Int32) (l4 : Int32) (l5 : Int32) (l6 : Int32) (l7 : Int32) (l8 : Int32) (l9 : Int32) (l11 : Int32) (y : MS) : Option (Int32 × MS) :=
  (f_X15_cost l1 l2 l8 l3 l9 l4 y).bind fun q21 => (f_J9_min_7cf53 (536870912 : Int32) ((l11 + ((100 : Int32) * q21)) + (1 : Int32))).bind fun q22 => f_X15_way_205 k37 k47 l1 l2 l3 l4 l5 l6 l7 l8 l9 q22 y
def f_X15_way_143 (k37 : Nat → Int32 → Int32 → Int32 → Int32 → Int32 → Int32 → Int32 → MS → Option (Int32 × MS)) (k47 : Nat → Int32 → Int32 → Int32 → Int32 → Int32 → Int32 → Int32 → Int32 → MS → Option (Int32 × MS)) (l1 : Nat) (l2 : Int32) (l3 : Int32) (l4 : Int32) (l5 : Int32) (l6 : Int32) (l7 : Int32) (l8 : Int32) (l9 : Int32) (l11 : Int32) (y : MS) : Option (Int32 × MS) :=
  if l8 ≤ 0 then (f_X15_way_177 k37 k47 l1 l2 l3 l4 l5 l6 l7 l8 l9 l11 y) else (if l9 ≤ 0 then (f_X15_way_177 k37 k47 l1 l2 l3 l4 l5 l6 l7 l8 l9 l11 y) else (if g_ok ((((24 : Int32) * (l8 - (1 : Int32))) + l9) - (1 : Int32)) 576 = true then ((f_J9_min_7cf53 l11 (y 160 ((((24 : Int32) * (l8 - (1 : Int32))) + l9) - (1 : Int32)).toNatClampNeg)).bind fun q20 => f_X15_way_177 k37 k47 l1 l2 l3 l4 l5 l6 l7 l8 l9 q20 y) else none))
def f_X15_way_116 (k37 : Nat → Int32 → Int32 → Int32 → Int32 → Int32 → Int32 → Int32 → MS → Option (Int32 × MS)) (k47 : Nat → Int32 → Int32 → Int32 → Int32 → Int32 → Int32 → Int32 → Int32 → MS → Option (Int32 × MS)) (l1 : Nat) (l2 : Int32) (l3 : Int32) (l4 : Int32) (l5 : Int32) (l6 : Int32) (l7 : Int32) (l8 : Int32) (l9 : Int32) (l11 : Int32) (y : MS) : Option (Int32 × MS) :=
  if l9 ≤ 0 then (f_X15_way_143 k37 k47 l1 l2 l3 l4 l5 l6 l7 l8 l9 l11 y) else (if g_ok ((((24 : Int32) * l8) + l9) - (1 : Int32)) 576 = true then ((f_J9_min_7cf53 l11 (y 160 ((((24 : Int32) * l8) + l9) - (1 : Int32)).toNatClampNeg)).bind fun q16 => f_X15_way_143 k37 k47 l1 l2 l3 l4 l5 l6 l7 l8 l9 q16 y) else none)
def f_X15_way_87 (k37 : Nat → Int32 → Int32 → Int32 → Int32 → Int32 → Int32 → Int32 → MS → Option (Int32 × MS)) (k47 : Nat → Int32 → Int32 → Int32 → Int32 → Int32 → Int32 → Int32 → Int32 → MS → Option (Int32 × MS)) (l1 : Nat) (l2 : Int32) (l3 : Int32) (l4 : Int32) (l5 : Int32) (l6 : Int32) (l7 : Int32) (l8 : Int32) (l9 : Int32) (s0 : Int32) (y : MS) : Option (Int32 × MS) :=
  if l8 ≤ 0 then (f_X15_way_116 k37 k47 l1 l2 l3 l4 l5 l6 l7 l8 l9 s0 y) else (if g_ok (((24 : Int32) * (l8 - (1 : Int32))) + l9) 576 = true then ((f_J9_min_7cf53 s0 (y 160 (((24 : Int32) * (l8 - (1 : Int32))) + l9).toNatClampNeg)).bind fun q13 => f_X15_way_116 k37 k47 l1 l2 l3 l4 l5 l6 l7 l8 l9 q13 y) else none)
def f_X15_way_47 (k37 : Nat → Int32 → Int32 → Int32 → Int32 → Int32 → Int32 → Int32 → MS → Option (Int32 × MS)) : Nat → Nat → Int32 → Int32 → Int32 → Int32 → Int32 → Int32 → Int32 → Int32 → MS → Option (Int32 × MS)
  | 0, _, _, _, _, _, _, _, _, _, _ => none
  | n + 1, l1, l2, l3, l4, l5, l6, l7, l8, l9, y => if l6 ≤ l9 then (k37 l1 l2 l3 l4 l5 l6 l7 (l8 + (1 : Int32)) y) else ((f_J9_abs_0f7a4 (l8 - l9)).bind fun q7 => if l7 < q7 then (f_X15_way_205 k37 (f_X15_way_47 k37 n) l1 l2 l3 l4 l5 l6 l7 l8 l9 (536870912 : Int32) y) else (if (l8 + l9) = 0 then (f_X15_way_87 k37 (f_X15_way_47 k37 n) l1 l2 l3 l4 l5 l6 l7 l8 l9 (0 : Int32) y) else (f_X15_way_87 k37 (f_X15_way_47 k37 n) l1 l2 l3 l4 l5 l6 l7 l8 l9 (536870912 : Int32) y)))
def f_X15_way_37  : Nat → Nat → Int32 → Int32 → Int32 → Int32 → Int32 → Int32 → Int32 → MS → Option (Int32 × MS)
  | 0, _, _, _, _, _, _, _, _, _ => none
  | n + 1, l1, l2, l3, l4, l5, l6, l7, l8, y => if l5 ≤ l8 then (if g_ok ((((24 : Int32) * (l5 - (1 : Int32))) + l6) - (1 : Int32)) 576 = true then (some ((y 160 ((((24 : Int32) * (l5 - (1 : Int32))) + l6) - (1 : Int32)).toNatClampNeg, y))) else none) else (f_X15_way_47 (f_X15_way_37 n) g_fuel l1 l2 l3 l4 l5 l6 l7 l8 (0 : Int32) y)
def f_X15_way (p1 : Nat) (p2 : Int32) (p3 : Int32) (p4 : Int32) (y : MS) : Option (Int32 × MS) :=
  if g_ok p2 10 = true then (if g_ok p3 10 = true then ((f_J9_abs_0f7a4 ((y (p1 + 1) p2.toNatClampNeg) - (y (p1 + 1) p3.toNatClampNeg))).bind fun q3 => f_X15_way_37 g_fuel p1 p2 p3 p4 (y (p1 + 1) p2.toNatClampNeg) (y (p1 + 1) p3.toNatClampNeg) ((y 127 0) + q3) (0 : Int32) y) else none) else none
def f_X15_distance (p1 : Nat) (p2 : Int32) (p3 : Int32) (y : MS) : Option (Int32 × MS) :=
  (f_X15_way p1 p2 p3 (0 : Int32) y).bind fun q1 => some ((q1.1 / (100 : Int32), q1.2))
def f_X15_meant_20  : Nat → Nat → Int32 → Int32 → Int32 → Int32 → MS → Option (Int32 × MS)
  | 0, _, _, _, _, _, _ => none
  | n + 1, l1, l2, l3, l4, l5, y => if (y 127 2) ≤ l5 then (some ((l3, y))) else (if l5 = l2 then (f_X15_meant_20 n l1 l2 l3 l4 (l5 + (1 : Int32)) y) else (if g_ok l5 8 = true then (if (y (l1 + 3) l5.toNatClampNeg) = (1 : Int32) then (f_X15_meant_20 n l1 l2 l3 l4 (l5 + (1 : Int32)) y) else ((f_X15_distance l1 l5 (8 : Int32) y).bind fun q7 => if l3 = (-1 : Int32) then (f_X15_meant_20 n l1 l2 l5 q7.1 (l5 + (1 : Int32)) q7.2) else (if q7.1 < l4 then (f_X15_meant_20 n l1 l2 l5 q7.1 (l5 + (1 : Int32)) q7.2) else (f_X15_meant_20 n l1 l2 l3 l4 (l5 + (1 : Int32)) q7.2)))) else none))
def f_X15_meant (p1 : Nat) (p2 : Int32) (y : MS) : Option (Int32 × MS) :=
  if g_ok (8 : Int32) 10 = true then (if (y (p1 + 1) (8 : Int32).toNatClampNeg) = 0 then (some (((-1 : Int32), y))) else (f_X15_meant_20 g_fuel p1 p2 (-1 : Int32) (0 : Int32) (0 : Int32) y)) else none
def f_X15_kept_4 (y : MS) : Nat → Nat → Int32 → Int32 → Option (Int32)
  | 0, _, _, _ => none
  | n + 1, l1, l2, l3 => if (y 127 2) ≤ l3 then (some (l2)) else (if g_ok l3 8 = true then (f_X15_kept_4 y n l1 (l2 + ((1 : Int32) - (y (l1 + 3) l3.toNatClampNeg))) (l3 + (1 : Int32))) else none)
def f_X15_kept (p1 : Nat) (y : MS) : Option (Int32) :=
  f_X15_kept_4 y g_fuel p1 (0 : Int32) (0 : Int32)
def f_X15_near (p1 : Nat) (p2 : Int32) (p3 : Int32) (y : MS) : Option (Int32 × MS) :=
  if p2 = p3 then (some (((0 : Int32), y))) else ((f_X15_distance p1 p2 p3 y).bind fun q2 => if g_ok p2 10 = true then (if g_ok p3 10 = true then ((f_J9_max_7cf53 (q2.2 (p1 + 1) p2.toNatClampNeg) (q2.2 (p1 + 1) p3.toNatClampNeg)).bind fun q5 => if (((q2.2 127 1) * q5) / (4 : Int32)) ≤ q2.1 then (some (((0 : Int32), q2.2))) else (some (((1 : Int32), q2.2)))) else none) else none)
def f_X15_needless_17  : Nat → Int32 → Int32 → MS → Option (Int32 × MS)
  | 0, _, _, _ => none
  | n + 1, l1, l2, y => if l1 ≤ l2 then (some (((0 : Int32), y))) else (if g_ok l2 8 = true then (if (y 155 l2.toNatClampNeg) = 0 then ((f_X15_near 152 l2 l1 y).bind fun q6 => if q6.1 = 0 then (f_X15_needless_17 n l1 (l2 + (1 : Int32)) q6.2) else (some (((1 : Int32), q6.2)))) else (f_X15_needless_17 n l1 (l2 + (1 : Int32)) y)) else none)
def f_X15_needless (p1 : Int32) (y : MS) : Option (Int32 × MS) :=
  if g_ok p1 8 = true then (if (y 155 p1.toNatClampNeg) = (1 : Int32) then (some (((0 : Int32), y))) else (f_X15_needless_17 g_fuel p1 (0 : Int32) y)) else none
def f_X15_joined (p1 : Int32) (p2 : Int32) (p3 : Int32) : Option (Int32) :=
  if p1 = (22 : Int32) then (some (p2 &&& p3)) else (if p1 = (23 : Int32) then (some (p2 ||| p3)) else (if p1 = (24 : Int32) then ((f_J9_min_7cf53 p2 p3).bind fun q49 => some (q49)) else (if p1 = (25 : Int32) then ((f_J9_max_7cf53 p2 p3).bind fun q48 => some (q48)) else (if p1 = (26 : Int32) then (if p2 < p3 then (some ((0 : Int32))) else (some ((1 : Int32)))) else (if p1 = (27 : Int32) then (if p2 < p3 then (some ((0 : Int32))) else (some ((1 : Int32)))) else (if p1 = (28 : Int32) then (if p2 < p3 then (some ((0 : Int32))) else (some ((1 : Int32)))) else (if p1 = (29 : Int32) then (if p2 < p3 then (some ((0 : Int32))) else (some ((1 : Int32)))) else (if p1 = (30 : Int32) then (if p2 < p3 then (some ((0 : Int32))) else (some ((1 : Int32)))) else (if p1 = (31 : Int32) then (if p2 < p3 then (some ((0 : Int32))) else (some ((1 : Int32)))) else (if p1 = (32 : Int32) then (if p2 < p3 then (some ((0 : Int32))) else (some ((1 : Int32)))) else (if p1 = (33 : Int32) then (if p2 < p3 then (some ((0 : Int32))) else (some ((1 : Int32)))) else (if p1 = (34 : Int32) then (if p2 < p3 then (some ((0 : Int32))) else (some ((1 : Int32)))) else (if p1 = (35 : Int32) then (if p2 < p3 then (some ((0 : Int32))) else (some ((1 : Int32)))) else (if p1 = (36 : Int32) then (if p2 < p3 then (some ((0 : Int32))) else (some ((1 : Int32)))) else (if p1 = (37 : Int32) then (if p2 < p3 then (some ((0 : Int32))) else (some ((1 : Int32)))) else (if p1 = (38 : Int32) then (if p2 < p3 then (some ((0 : Int32))) else (some ((1 : Int32)))) else (if p1 = (39 : Int32) then (if p2 < p3 then (some ((0 : Int32))) else (some ((1 : Int32)))) else (if p1 = (40 : Int32) then (some (p2 + p3)) else (if p1 = (41 : Int32) then (some (p2 - p3)) else (if p1 = (42 : Int32) then (some (p2 * p3)) else (if p1 = (43 : Int32) then (if p3 = 0 then (some ((0 : Int32))) else (if ¬ p3 = 0 then (some (p2 / p3)) else none)) else (if p1 = (44 : Int32) then (if p3 ≤ p2 then (some ((0 : Int32))) else (some ((1 : Int32)))) else (if p1 = (45 : Int32) then (if p2 ≤ p3 then (some ((0 : Int32))) else (some ((1 : Int32)))) else (if p1 = (46 : Int32) then (if p2 = p3 then (some ((1 : Int32))) else (some ((0 : Int32)))) else (if p1 = (47 : Int32) then (if p3 < p2 then (some ((0 : Int32))) else (some ((1 : Int32)))) else (if p2 < p3 then (some ((0 : Int32))) else (some ((1 : Int32)))))))))))))))))))))))))))))
def f_X15_reckon (p1 : Nat) (p2 : Int32) (p3 : Int32) (p4 : Int32) (y : MS) : Option (Int32 × MS) :=
  if p2 = (14 : Int32) then (some ((y p1 3, y))) else (if p2 = (15 : Int32) then ((f_X15_kept p1 y).bind fun q22 => some ((q22, y))) else (if p2 = (16 : Int32) then (if g_ok (8 : Int32) 10 = true then (if (y (p1 + 1) (8 : Int32).toNatClampNeg) = 0 then (some (((999 : Int32), y))) else ((f_X15_distance p1 p3 (8 : Int32) y).bind fun q21 => some ((q21.1, q21.2)))) else none) else (if p2 = (17 : Int32) then (if g_ok p3 10 = true then (some ((y (p1 + 1) p3.toNatClampNeg, y))) else none) else (if p2 = (19 : Int32) then ((f_X15_meant p1 (-1 : Int32) y).bind fun q16 => if q16.1 = p3 then (some (((1 : Int32), q16.2))) else (some (((0 : Int32), q16.2)))) else (if p2 = (20 : Int32) then (if g_ok p3 8 = true then (some ((y (p1 + 3) p3.toNatClampNeg, y))) else none) else (if p2 = (21 : Int32) then (if g_ok p3 800 = true then (some (((1 : Int32) - (y 151 p3.toNatClampNeg), y))) else none) else (if p2 = (31 : Int32) then (some ((p3, y))) else (if p2 = (60 : Int32) then (if g_ok p3 800 = true then (some ((-(y 151 p3.toNatClampNeg), y))) else none) else (if g_ok p3 800 = true then (if g_ok p4 800 = true then ((f_X15_joined p2 (y 151 p3.toNatClampNeg) (y 151 p4.toNatClampNeg)).bind fun q12 => some ((q12, y))) else none) else none)))))))))
def f_X15_held (p1 : Int32) (p2 : Int32) : Option (Int32) :=
  if p1 = 0 then (some ((0 : Int32))) else ((f_J9_min_f86c9 (40 : Int64) (p1.toInt64 + p2.toInt64)).bind fun q2 => (f_J9_max_f86c9 (1 : Int64) q2).bind fun q3 => some (q3.toInt32))
def f_X15_isShifted_57 (k9 : Nat → Int32 → Int32 → Int32 → Int32 → MS → Option (Int32 × MS)) (l1 : Nat) (l2 : Int32) (l3 : Int32) (l5 : Int32) (l6 : Int32) (s0 : Int32) (s1 : Int32) (y : MS) : Option (Int32 × MS) :=
  if g_ok l5 240 = true then (k9 l1 l2 l3 (s1 ||| s0) (l5 + (1 : Int32)) (g_mi y (l1 + 2) l5.toNatClampNeg l6)) else none
def f_X15_isShifted_9  : Nat → Nat → Int32 → Int32 → Int32 → Int32 → MS → Option (Int32 × MS)
  | 0, _, _, _, _, _, _ => none
  | n + 1, l1, l2, l3, l4, l5, y => if g_ok l2 10 = true then (if (((24 : Int32) * l2) + (y (l1 + 1) l2.toNatClampNeg)) ≤ l5 then (if l4 = 0 ∨ l4 = 1 then (some ((l4, y))) else none) else (if g_ok l5 240 = true then ((f_X15_held (y (l1 + 2) l5.toNatClampNeg) l3).bind fun q5 => if g_ok l5 240 = true then (if q5 = (y (l1 + 2) l5.toNatClampNeg) then (f_X15_isShifted_57 (f_X15_isShifted_9 n) l1 l2 l3 l5 q5 (0 : Int32) l4 y) else (f_X15_isShifted_57 (f_X15_isShifted_9 n) l1 l2 l3 l5 q5 (1 : Int32) l4 y)) else none) else none)) else none
def f_X15_isShifted (p1 : Nat) (p2 : Int32) (p3 : Int32) (y : MS) : Option (Int32 × MS) :=
  f_X15_isShifted_9 g_fuel p1 p2 p3 (0 : Int32) ((24 : Int32) * p2) y
def f_X15_carryOut_178 (l1 : Nat) (l3 : Int32) (l4 : Int32) (s0 : Int32) (y : MS) : Option (Int32 × MS) :=
  if g_ok l3 8 = true then (if s0 = 0 ∨ s0 = 1 then (some ((s0, g_mi y (l1 + 3) l3.toNatClampNeg l4))) else none) else none
def f_X15_carryOut_160 (l1 : Nat) (l3 : Int32) (s0 : Int32) (y : MS) : Option (Int32 × MS) :=
  if g_ok l3 8 = true then (if (y (l1 + 3) l3.toNatClampNeg) = s0 then (f_X15_carryOut_178 l1 l3 s0 (0 : Int32) y) else (f_X15_carryOut_178 l1 l3 s0 (1 : Int32) y)) else none
def f_X15_carryOut_99 (l1 : Nat) (l2 : Int32) (y : MS) : Option (Int32 × MS) :=
  if g_ok l2 17 = true then (if g_ok l2 17 = true then (if (y 130 l2.toNatClampNeg) = (2 : Int32) then (if g_ok l2 17 = true then (if g_ok (y 134 l2.toNatClampNeg) 800 = true then ((f_X15_isShifted l1 (y 131 l2.toNatClampNeg) (y 151 (y 134 l2.toNatClampNeg).toNatClampNeg) y).bind fun q21 => if q21.1 = 0 ∨ q21.1 = 1 then (some ((q21.1, q21.2))) else none) else none) else none) else (if g_ok l2 17 = true then (if (y 130 l2.toNatClampNeg) = 0 then (f_X15_carryOut_160 l1 (y 131 l2.toNatClampNeg) (1 : Int32) y) else (f_X15_carryOut_160 l1 (y 131 l2.toNatClampNeg) (0 : Int32) y)) else none)) else none) else none
def f_X15_carryOut_10  : Nat → Nat → Int32 → Int32 → MS → Option (Int32 × MS)
  | 0, _, _, _, _ => none
  | n + 1, l1, l2, l3, y => if g_ok l2 17 = true then (if (y 133 l2.toNatClampNeg) ≤ l3 then (if g_ok l2 17 = true then (if (y 135 l2.toNatClampNeg) = (-1 : Int32) then (f_X15_carryOut_99 l1 l2 y) else (if g_ok l2 17 = true then (if g_ok (y 135 l2.toNatClampNeg) 800 = true then (if (y 151 (y 135 l2.toNatClampNeg).toNatClampNeg) = 0 then (some (((0 : Int32), y))) else (f_X15_carryOut_99 l1 l2 y)) else none) else none)) else none) else (if g_ok l3 800 = true then (if g_ok l3 800 = true then (if g_ok l3 800 = true then ((f_X15_reckon l1 (y 136 l3.toNatClampNeg) (y 137 l3.toNatClampNeg) (y 138 l3.toNatClampNeg) y).bind fun q12 => if g_ok l3 800 = true then (f_X15_carryOut_10 n l1 l2 (l3 + (1 : Int32)) (g_mi q12.2 151 l3.toNatClampNeg q12.1)) else none) else none) else none) else none)) else none
def f_X15_carryOut (p1 : Nat) (p2 : Int32) (y : MS) : Option (Int32 × MS) :=
  if g_ok p2 17 = true then (f_X15_carryOut_10 g_fuel p1 p2 (y 132 p2.toNatClampNeg) y) else none
def f_X15_lesson_4  : Nat → Nat → Int32 → Int32 → MS → Option (Int32 × MS)
  | 0, _, _, _, _ => none
  | n + 1, l1, l2, l3, y => if (y 127 5) ≤ l3 then (some ((l2, g_mi (g_mi y l1 4 ((y l1 4) + l2)) l1 3 (((g_mi y l1 4 ((y l1 4) + l2)) l1 3) + (1 : Int32))))) else ((f_X15_carryOut l1 l3 y).bind fun q2 => if q2.1 = 0 then (f_X15_lesson_4 n l1 (l2 + (0 : Int32)) (l3 + (1 : Int32)) q2.2) else (f_X15_lesson_4 n l1 (l2 + (1 : Int32)) (l3 + (1 : Int32)) q2.2))
def f_X15_lesson (p1 : Nat) (y : MS) : Option (Int32 × MS) :=
  f_X15_lesson_4 g_fuel p1 (0 : Int32) (0 : Int32) y
def f_X15_words (y : MS) : Option (Int32 × MS) :=
  (f_X15_ok (y 127 2) y).bind fun q1 => some ((q1.1, q1.2))
def f_X15_keptWords (y : MS) : Option (Int32 × MS) :=
  (f_X15_kept 152 y).bind fun q1 => (f_X15_ok q1 y).bind fun q2 => some ((q2.1, q2.2))
def f_X15_rules (y : MS) : Option (Int32 × MS) :=
  (f_X15_ok (y 127 5) y).bind fun q1 => some ((q1.1, q1.2))
def f_X15_lessons (y : MS) : Option (Int32 × MS) :=
  (f_X15_ok (y 152 3) y).bind fun q1 => some ((q1.1, q1.2))
def f_X15_rulesCarriedOut (y : MS) : Option (Int32 × MS) :=
  (f_X15_ok (y 152 4) y).bind fun q1 => some ((q1.1, q1.2))
def f_X15_heardBeats (y : MS) : Option (Int32 × MS) :=
  if g_ok (8 : Int32) 10 = true then ((f_X15_ok (y 153 (8 : Int32).toNatClampNeg) y).bind fun q2 => some ((q2.1, q2.2))) else none
def f_X15_isTold (p1 : Int32) (y : MS) : Option (Int32) :=
  (f_X15_isIn p1 (0 : Int32) ((y 127 2) - (1 : Int32))).bind fun q1 => if q1 = 0 ∨ q1 = 1 then (some (q1)) else none
def f_X15_isBeat (p1 : Int32) (p2 : Int32) (y : MS) : Option (Int32) :=
  (f_X15_isTold p1 y).bind fun q1 => if q1 = 0 then (some ((0 : Int32))) else (if g_ok p1 10 = true then ((f_X15_isIn p2 (0 : Int32) ((y 153 p1.toNatClampNeg) - (1 : Int32))).bind fun q4 => if q4 = 0 then (some ((0 : Int32))) else (some ((1 : Int32)))) else none)
def f_X15_lengthOf (p1 : Int32) (y : MS) : Option (Int32 × MS) :=
  (f_X15_isTold p1 (g_mi y 120 0 (0 : Int32))).bind fun q1 => if q1 = 0 then ((f_X15_no (1 : Int32) (g_mi y 120 0 (0 : Int32))).bind fun q3 => some ((q3.1, q3.2))) else (if g_ok p1 10 = true then (some (((g_mi y 120 0 (0 : Int32)) 153 p1.toNatClampNeg, g_mi y 120 0 (0 : Int32)))) else none)
def f_X15_pitchAt (p1 : Int32) (p2 : Int32) (y : MS) : Option (Int32 × MS) :=
  (f_X15_isBeat p1 p2 (g_mi y 120 0 (0 : Int32))).bind fun q1 => if q1 = 0 then ((f_X15_no (1 : Int32) (g_mi y 120 0 (0 : Int32))).bind fun q3 => some ((q3.1, q3.2))) else (if g_ok (((24 : Int32) * p1) + p2) 240 = true then (some (((g_mi y 120 0 (0 : Int32)) 154 (((24 : Int32) * p1) + p2).toNatClampNeg, g_mi y 120 0 (0 : Int32)))) else none)
def f_X15_contourAt (p1 : Int32) (p2 : Int32) (y : MS) : Option (Int32 × MS) :=
  (f_X15_isBeat p1 p2 (g_mi y 120 0 (0 : Int32))).bind fun q1 => if q1 = 0 then ((f_X15_no (1 : Int32) (g_mi y 120 0 (0 : Int32))).bind fun q3 => some ((q3.1, q3.2))) else ((f_X15_contour 152 p1 p2 (g_mi y 120 0 (0 : Int32))).bind fun q4 => some ((q4, g_mi y 120 0 (0 : Int32))))
def f_X15_isPruned (p1 : Int32) (y : MS) : Option (Int32 × MS) :=
  (f_X15_isTold p1 (g_mi y 120 0 (0 : Int32))).bind fun q1 => if q1 = 0 then ((f_X15_isNot (1 : Int32) (g_mi y 120 0 (0 : Int32))).bind fun q3 => if q3.1 = 0 ∨ q3.1 = 1 then (some ((q3.1, q3.2))) else none) else (if g_ok p1 8 = true then (if ((g_mi y 120 0 (0 : Int32)) 155 p1.toNatClampNeg) = (1 : Int32) then (some (((1 : Int32), g_mi y 120 0 (0 : Int32)))) else (some (((0 : Int32), g_mi y 120 0 (0 : Int32))))) else none)
def f_X15_silentBeats_23  : Nat → Int32 → Int32 → Int32 → MS → Option (Int32 × MS)
  | 0, _, _, _, _ => none
  | n + 1, l1, l2, l3, y => if g_ok l1 10 = true then (if (y 153 l1.toNatClampNeg) ≤ l3 then (some ((l2, y))) else (if g_ok (((24 : Int32) * l1) + l3) 240 = true then (if (y 154 (((24 : Int32) * l1) + l3).toNatClampNeg) = 0 then (f_X15_silentBeats_23 n l1 (l2 + (1 : Int32)) (l3 + (1 : Int32)) y) else (f_X15_silentBeats_23 n l1 (l2 + (0 : Int32)) (l3 + (1 : Int32)) y)) else none)) else none
def f_X15_silentBeats (p1 : Int32) (y : MS) : Option (Int32 × MS) :=
  (f_X15_isTold p1 (g_mi y 120 0 (0 : Int32))).bind fun q1 => if q1 = 0 then ((f_X15_no (1 : Int32) (g_mi y 120 0 (0 : Int32))).bind fun q3 => some ((q3.1, q3.2))) else (f_X15_silentBeats_23 g_fuel p1 (0 : Int32) (0 : Int32) (g_mi y 120 0 (0 : Int32)))
def f_X15_distanceBetween_34 (y : MS) : Option (Int32 × MS) :=
  (f_X15_no (1 : Int32) y).bind fun q6 => some ((q6.1, q6.2))
def f_X15_distanceBetween (p1 : Int32) (p2 : Int32) (y : MS) : Option (Int32 × MS) :=
  (f_X15_isTold p1 (g_mi y 120 0 (0 : Int32))).bind fun q1 => if q1 = 0 then (f_X15_distanceBetween_34 (g_mi y 120 0 (0 : Int32))) else ((f_X15_isTold p2 (g_mi y 120 0 (0 : Int32))).bind fun q3 => if q3 = 0 then (f_X15_distanceBetween_34 (g_mi y 120 0 (0 : Int32))) else ((f_X15_distance 152 p1 p2 (g_mi y 120 0 (0 : Int32))).bind fun q5 => some ((q5.1, q5.2))))
def f_X15_contourBetween_38 (y : MS) : Option (Int32 × MS) :=
  (f_X15_no (1 : Int32) y).bind fun q6 => some ((q6.1, q6.2))
def f_X15_contourBetween (p1 : Int32) (p2 : Int32) (y : MS) : Option (Int32 × MS) :=
  (f_X15_isTold p1 (g_mi y 120 0 (0 : Int32))).bind fun q1 => if q1 = 0 then (f_X15_contourBetween_38 (g_mi y 120 0 (0 : Int32))) else ((f_X15_isTold p2 (g_mi y 120 0 (0 : Int32))).bind fun q3 => if q3 = 0 then (f_X15_contourBetween_38 (g_mi y 120 0 (0 : Int32))) else ((f_X15_way 152 p1 p2 (1 : Int32) (g_mi y 120 0 (0 : Int32))).bind fun q5 => some ((q5.1 / (100 : Int32), q5.2))))
def f_X15_areNear_34 (y : MS) : Option (Int32 × MS) :=
  (f_X15_isNot (1 : Int32) y).bind fun q7 => if q7.1 = 0 ∨ q7.1 = 1 then (some ((q7.1, q7.2))) else none
def f_X15_areNear (p1 : Int32) (p2 : Int32) (y : MS) : Option (Int32 × MS) :=
  (f_X15_isTold p1 (g_mi y 120 0 (0 : Int32))).bind fun q1 => if q1 = 0 then (f_X15_areNear_34 (g_mi y 120 0 (0 : Int32))) else ((f_X15_isTold p2 (g_mi y 120 0 (0 : Int32))).bind fun q3 => if q3 = 0 then (f_X15_areNear_34 (g_mi y 120 0 (0 : Int32))) else ((f_X15_near 152 p1 p2 (g_mi y 120 0 (0 : Int32))).bind fun q5 => if q5.1 = 0 ∨ q5.1 = 1 then (some ((q5.1, q5.2))) else none))
def f_X15_nearestTo_26  : Nat → Int32 → Int32 → Int32 → Int32 → MS → Option (Int32 × MS)
  | 0, _, _, _, _, _ => none
  | n + 1, l1, l2, l3, l4, y => if (y 127 2) ≤ l4 then (if l2 = (-1 : Int32) then ((f_X15_no (2 : Int32) y).bind fun q6 => some ((q6.1, q6.2))) else (some ((l2, y)))) else (if l4 = l1 then (f_X15_nearestTo_26 n l1 l2 l3 (l4 + (1 : Int32)) y) else ((f_X15_distance 152 l4 l1 y).bind fun q8 => if l2 = (-1 : Int32) then (f_X15_nearestTo_26 n l1 l4 q8.1 (l4 + (1 : Int32)) q8.2) else (if q8.1 < l3 then (f_X15_nearestTo_26 n l1 l4 q8.1 (l4 + (1 : Int32)) q8.2) else (f_X15_nearestTo_26 n l1 l2 l3 (l4 + (1 : Int32)) q8.2))))
def f_X15_nearestTo (p1 : Int32) (y : MS) : Option (Int32 × MS) :=
  (f_X15_isTold p1 (g_mi y 120 0 (0 : Int32))).bind fun q1 => if q1 = 0 then ((f_X15_no (1 : Int32) (g_mi y 120 0 (0 : Int32))).bind fun q3 => some ((q3.1, q3.2))) else (f_X15_nearestTo_26 g_fuel p1 (-1 : Int32) (0 : Int32) (0 : Int32) (g_mi y 120 0 (0 : Int32)))
def f_X15_isNeedless (p1 : Int32) (y : MS) : Option (Int32 × MS) :=
  (f_X15_isTold p1 (g_mi y 120 0 (0 : Int32))).bind fun q1 => if q1 = 0 then ((f_X15_isNot (1 : Int32) (g_mi y 120 0 (0 : Int32))).bind fun q3 => if q3.1 = 0 ∨ q3.1 = 1 then (some ((q3.1, q3.2))) else none) else ((f_X15_needless p1 (g_mi y 120 0 (0 : Int32))).bind fun q5 => if q5.1 = 0 ∨ q5.1 = 1 then (some ((q5.1, q5.2))) else none)
def f_X15_heardPitch (p1 : Int32) (y : MS) : Option (Int32 × MS) :=
  if g_ok (8 : Int32) 10 = true then ((f_X15_isIn p1 (0 : Int32) (((g_mi y 120 0 (0 : Int32)) 153 (8 : Int32).toNatClampNeg) - (1 : Int32))).bind fun q2 => if q2 = 0 then ((f_X15_no (1 : Int32) (g_mi y 120 0 (0 : Int32))).bind fun q4 => some ((q4.1, q4.2))) else (if g_ok ((192 : Int32) + p1) 240 = true then (some (((g_mi y 120 0 (0 : Int32)) 154 ((192 : Int32) + p1).toNatClampNeg, g_mi y 120 0 (0 : Int32)))) else none)) else none
def f_X15_isHeard_31 (s0 : Int32) (y : MS) : Option (Int32 × MS) :=
  if ((g_mi y 120 0 s0) 120 0) = 0 then (some (((1 : Int32), g_mi y 120 0 s0))) else (some (((0 : Int32), g_mi y 120 0 s0)))
def f_X15_isHeard (p1 : Int32) (y : MS) : Option (Int32 × MS) :=
  (f_X15_isTold p1 y).bind fun q1 => if q1 = 0 then (f_X15_isHeard_31 (1 : Int32) y) else (if g_ok (8 : Int32) 10 = true then (if (y 153 (8 : Int32).toNatClampNeg) = 0 then (f_X15_isHeard_31 (2 : Int32) y) else (f_X15_isHeard_31 (0 : Int32) y)) else none)
def f_X15_distanceTo (p1 : Int32) (y : MS) : Option (Int32 × MS) :=
  (f_X15_isHeard p1 y).bind fun q1 => if q1.1 = 0 then (some (((0 : Int32), q1.2))) else ((f_X15_distance 152 p1 (8 : Int32) q1.2).bind fun q3 => some ((q3.1, q3.2)))
def f_X15_contourTo (p1 : Int32) (y : MS) : Option (Int32 × MS) :=
  (f_X15_isHeard p1 y).bind fun q1 => if q1.1 = 0 then (some (((0 : Int32), q1.2))) else ((f_X15_way 152 p1 (8 : Int32) (1 : Int32) q1.2).bind fun q3 => some ((q3.1 / (100 : Int32), q3.2)))
def f_X15_stepsTo (p1 : Int32) (y : MS) : Option (Int32 × MS) :=
  (f_X15_isHeard p1 y).bind fun q1 => if q1.1 = 0 then (some (((0 : Int32), q1.2))) else ((f_X15_way 152 p1 (8 : Int32) (0 : Int32) q1.2).bind fun q3 => some ((q3.1 - q3.1 / (100 : Int32) * (100 : Int32), q3.2)))
def f_X15_meantWord (y : MS) : Option (Int32 × MS) :=
  (f_X15_meant 152 (-1 : Int32) y).bind fun q1 => if q1.1 = (-1 : Int32) then ((f_X15_no (1 : Int32) q1.2).bind fun q4 => some ((q4.1, q4.2))) else ((f_X15_ok q1.1 q1.2).bind fun q3 => some ((q3.1, q3.2)))
def f_X15_surety_64 (s0 : Int32) (y : MS) : Option (Int32 × MS) :=
  (f_X15_ok s0 y).bind fun q8 => some ((q8.1, q8.2))
def f_X15_surety (y : MS) : Option (Int32 × MS) :=
  (f_X15_meant 152 (-1 : Int32) y).bind fun q1 => if q1.1 = (-1 : Int32) then ((f_X15_no (1 : Int32) q1.2).bind fun q7 => some ((q7.1, q7.2))) else ((f_X15_meant 152 q1.1 q1.2).bind fun q3 => if q3.1 = (-1 : Int32) then (f_X15_surety_64 (-1 : Int32) q3.2) else ((f_X15_distance 152 q3.1 (8 : Int32) q3.2).bind fun q5 => (f_X15_distance 152 q1.1 (8 : Int32) q5.2).bind fun q6 => f_X15_surety_64 (q5.1 - q6.1) q6.2))
def f_X15_hear (p1 : Int32) (y : MS) : Option (Int32 × MS) :=
  (f_X15_isIn p1 (0 : Int32) (40 : Int32)).bind fun q1 => if q1 = 0 then ((f_X15_no (1 : Int32) (g_mi y 120 0 (0 : Int32))).bind fun q11 => some ((q11.1, q11.2))) else (if g_ok (8 : Int32) 10 = true then (if ((g_mi y 120 0 (0 : Int32)) 153 (8 : Int32).toNatClampNeg) = (24 : Int32) then ((f_X15_no (2 : Int32) (g_mi y 120 0 (0 : Int32))).bind fun q10 => some ((q10.1, q10.2))) else (if g_ok (8 : Int32) 10 = true then (if g_ok ((192 : Int32) + ((g_mi y 120 0 (0 : Int32)) 153 (8 : Int32).toNatClampNeg)) 240 = true then (if g_ok (8 : Int32) 10 = true then (if g_ok (8 : Int32) 10 = true then (if g_ok (8 : Int32) 10 = true then (some (((g_mi (g_mi (g_mi y 120 0 (0 : Int32)) 154 ((192 : Int32) + ((g_mi y 120 0 (0 : Int32)) 153 (8 : Int32).toNatClampNeg)).toNatClampNeg p1) 153 (8 : Int32).toNatClampNeg (((g_mi (g_mi y 120 0 (0 : Int32)) 154 ((192 : Int32) + ((g_mi y 120 0 (0 : Int32)) 153 (8 : Int32).toNatClampNeg)).toNatClampNeg p1) 153 (8 : Int32).toNatClampNeg) + (1 : Int32))) 153 (8 : Int32).toNatClampNeg, g_mi (g_mi (g_mi y 120 0 (0 : Int32)) 154 ((192 : Int32) + ((g_mi y 120 0 (0 : Int32)) 153 (8 : Int32).toNatClampNeg)).toNatClampNeg p1) 153 (8 : Int32).toNatClampNeg (((g_mi (g_mi y 120 0 (0 : Int32)) 154 ((192 : Int32) + ((g_mi y 120 0 (0 : Int32)) 153 (8 : Int32).toNatClampNeg)).toNatClampNeg p1) 153 (8 : Int32).toNatClampNeg) + (1 : Int32))))) else none) else none) else none) else none) else none)) else none)
def f_X15_hearWord_57  : Nat → Int32 → Int32 → Int32 → MS → Option (Int32 × MS)
  | 0, _, _, _, _ => none
  | n + 1, l1, l2, l3, y => if g_ok l1 10 = true then (if (y 153 l1.toNatClampNeg) ≤ l3 then (if g_ok (8 : Int32) 10 = true then (some ((y 153 (8 : Int32).toNatClampNeg, y))) else none) else (if g_ok (((24 : Int32) * l1) + l3) 240 = true then ((f_X15_held (y 154 (((24 : Int32) * l1) + l3).toNatClampNeg) l2).bind fun q13 => if g_ok ((192 : Int32) + l3) 240 = true then (f_X15_hearWord_57 n l1 l2 (l3 + (1 : Int32)) (g_mi y 154 ((192 : Int32) + l3).toNatClampNeg q13)) else none) else none)) else none
def f_X15_hearWord (p1 : Int32) (p2 : Int32) (y : MS) : Option (Int32 × MS) :=
  (f_X15_isTold p1 (g_mi y 120 0 (0 : Int32))).bind fun q1 => if q1 = 0 then ((f_X15_no (1 : Int32) (g_mi y 120 0 (0 : Int32))).bind fun q8 => some ((q8.1, q8.2))) else ((f_X15_isIn p2 (-39 : Int32) (39 : Int32)).bind fun q3 => if q3 = 0 then ((f_X15_no (2 : Int32) (g_mi y 120 0 (0 : Int32))).bind fun q7 => some ((q7.1, q7.2))) else (if g_ok p1 10 = true then (if g_ok (8 : Int32) 10 = true then (f_X15_hearWord_57 g_fuel p1 p2 (0 : Int32) (g_mi (g_mi y 120 0 (0 : Int32)) 153 (8 : Int32).toNatClampNeg ((g_mi y 120 0 (0 : Int32)) 153 p1.toNatClampNeg))) else none) else none))
def f_X15_forget (y : MS) : Option (Int32 × MS) :=
  if g_ok (8 : Int32) 10 = true then (if g_ok (8 : Int32) 10 = true then ((f_X15_ok (y 153 (8 : Int32).toNatClampNeg) (g_mi y 153 (8 : Int32).toNatClampNeg (0 : Int32))).bind fun q3 => some ((q3.1, q3.2))) else none) else none
def f_X15_turnPruned (p1 : Int32) (y : MS) : Option (Int32 × MS) :=
  (f_X15_isTold p1 (g_mi y 120 0 (0 : Int32))).bind fun q1 => if q1 = 0 then ((f_X15_isNot (1 : Int32) (g_mi y 120 0 (0 : Int32))).bind fun q7 => if q7.1 = 0 ∨ q7.1 = 1 then (some ((q7.1, q7.2))) else none) else (if g_ok p1 8 = true then (if g_ok p1 8 = true then (if g_ok p1 8 = true then (if ((g_mi (g_mi y 120 0 (0 : Int32)) 155 p1.toNatClampNeg ((1 : Int32) - ((g_mi y 120 0 (0 : Int32)) 155 p1.toNatClampNeg))) 155 p1.toNatClampNeg) = (1 : Int32) then (some (((1 : Int32), g_mi (g_mi y 120 0 (0 : Int32)) 155 p1.toNatClampNeg ((1 : Int32) - ((g_mi y 120 0 (0 : Int32)) 155 p1.toNatClampNeg))))) else (some (((0 : Int32), g_mi (g_mi y 120 0 (0 : Int32)) 155 p1.toNatClampNeg ((1 : Int32) - ((g_mi y 120 0 (0 : Int32)) 155 p1.toNatClampNeg)))))) else none) else none) else none)
def f_X15_pruneNeedless_4  : Nat → Int32 → Int32 → MS → Option (Int32 × MS)
  | 0, _, _, _ => none
  | n + 1, l1, l2, y => if (y 127 2) ≤ l2 then ((f_X15_ok l1 y).bind fun q2 => some ((q2.1, q2.2))) else ((f_X15_needless l2 y).bind fun q3 => if q3.1 = 0 then (f_X15_pruneNeedless_4 n l1 (l2 + (1 : Int32)) q3.2) else (if g_ok l2 8 = true then (f_X15_pruneNeedless_4 n (l1 + (1 : Int32)) (l2 + (1 : Int32)) (g_mi q3.2 155 l2.toNatClampNeg (1 : Int32))) else none))
def f_X15_pruneNeedless (y : MS) : Option (Int32 × MS) :=
  f_X15_pruneNeedless_4 g_fuel (0 : Int32) (0 : Int32) y
def f_X15_passLessons_25  : Nat → Int32 → Int32 → Int32 → MS → Option (Int32 × MS)
  | 0, _, _, _, _ => none
  | n + 1, l1, l2, l3, y => if l1 ≤ l3 then (some ((l2, y))) else ((f_X15_lesson 152 y).bind fun q5 => f_X15_passLessons_25 n l1 (l2 + q5.1) (l3 + (1 : Int32)) q5.2)
def f_X15_passLessons (p1 : Int32) (y : MS) : Option (Int32 × MS) :=
  (f_X15_isIn p1 (1 : Int32) (20 : Int32)).bind fun q1 => if q1 = 0 then ((f_X15_no (1 : Int32) (g_mi y 120 0 (0 : Int32))).bind fun q3 => some ((q3.1, q3.2))) else (f_X15_passLessons_25 g_fuel p1 (0 : Int32) (0 : Int32) (g_mi y 120 0 (0 : Int32)))
def f_X15_keptAfter_34  : Nat → Int32 → Int32 → MS → Option (Int32 × MS)
  | 0, _, _, _ => none
  | n + 1, l1, l2, y => if l1 ≤ l2 then ((f_X15_kept 156 y).bind fun q6 => some ((q6, y))) else ((f_X15_lesson 156 y).bind fun q7 => f_X15_keptAfter_34 n l1 (l2 + (1 : Int32)) q7.2)
def f_X15_keptAfter (p1 : Int32) (y : MS) : Option (Int32 × MS) :=
  (f_X15_isIn p1 (1 : Int32) (20 : Int32)).bind fun q1 => if q1 = 0 then ((f_X15_no (1 : Int32) (g_mi y 120 0 (0 : Int32))).bind fun q4 => some ((q4.1, q4.2))) else ((f_X13_become 156 152 (g_mi y 120 0 (0 : Int32))).bind fun q3 => f_X15_keptAfter_34 g_fuel p1 (0 : Int32) q3)
def f_X15_lessonsUntilMeant_32  : Nat → Int32 → Int32 → MS → Option (Int32 × MS)
  | 0, _, _, _ => none
  | n + 1, l1, l2, y => if (20 : Int32) < l2 then (some (((-1 : Int32), y))) else ((f_X15_meant 156 (-1 : Int32) y).bind fun q6 => if q6.1 = l1 then (some ((l2, q6.2))) else ((f_X15_lesson 156 q6.2).bind fun q8 => f_X15_lessonsUntilMeant_32 n l1 (l2 + (1 : Int32)) q8.2))
def f_X15_lessonsUntilMeant (p1 : Int32) (y : MS) : Option (Int32 × MS) :=
  (f_X15_isTold p1 (g_mi y 120 0 (0 : Int32))).bind fun q1 => if q1 = 0 then ((f_X15_no (1 : Int32) (g_mi y 120 0 (0 : Int32))).bind fun q4 => some ((q4.1, q4.2))) else ((f_X13_become 156 152 (g_mi y 120 0 (0 : Int32))).bind fun q3 => f_X15_lessonsUntilMeant_32 g_fuel p1 (0 : Int32) q3)
def f_X15_bestShift_58 (k39 : Int32 → Int32 → Int32 → Int32 → MS → Option (Int32 × MS)) (k49 : Int32 → Int32 → Int32 → Int32 → Int32 → MS → Option (Int32 × MS)) : Nat → Int32 → Int32 → Int32 → Int32 → Int32 → Int32 → MS → Option (Int32 × MS)
  | 0, _, _, _, _, _, _, _ => none
  | n + 1, l1, l2, l3, l4, l5, l6, y => if g_ok (8 : Int32) 10 = true then (if (y 153 (8 : Int32).toNatClampNeg) ≤ l6 then ((f_X15_distance 152 l1 (9 : Int32) y).bind fun q9 => if q9.1 < l3 then (k49 l1 (l5 * l4) q9.1 l4 (l5 + (-2 : Int32)) q9.2) else (k49 l1 l2 l3 l4 (l5 + (-2 : Int32)) q9.2)) else (if g_ok ((192 : Int32) + l6) 240 = true then ((f_X15_held (y 154 ((192 : Int32) + l6).toNatClampNeg) (l5 * l4)).bind fun q12 => if g_ok ((216 : Int32) + l6) 240 = true then (f_X15_bestShift_58 k39 k49 n l1 l2 l3 l4 l5 (l6 + (1 : Int32)) (g_mi y 154 ((216 : Int32) + l6).toNatClampNeg q12)) else none) else none)) else none
def f_X15_bestShift_49 (k39 : Int32 → Int32 → Int32 → Int32 → MS → Option (Int32 × MS)) : Nat → Int32 → Int32 → Int32 → Int32 → Int32 → MS → Option (Int32 × MS)
  | 0, _, _, _, _, _, _ => none
  | n + 1, l1, l2, l3, l4, l5, y => if l5 < (-1 : Int32) then (k39 l1 l2 l3 (l4 + (1 : Int32)) y) else (f_X15_bestShift_58 k39 (f_X15_bestShift_49 k39 n) g_fuel l1 l2 l3 l4 l5 (0 : Int32) y)
def f_X15_bestShift_39  : Nat → Int32 → Int32 → Int32 → Int32 → MS → Option (Int32 × MS)
  | 0, _, _, _, _, _ => none
  | n + 1, l1, l2, l3, l4, y => if (39 : Int32) < l4 then (some ((l2, y))) else (f_X15_bestShift_49 (f_X15_bestShift_39 n) g_fuel l1 l2 l3 l4 (1 : Int32) y)
def f_X15_bestShift (p1 : Int32) (y : MS) : Option (Int32 × MS) :=
  (f_X15_isHeard p1 y).bind fun q1 => if q1.1 = 0 then (some (((0 : Int32), q1.2))) else (if g_ok (8 : Int32) 10 = true then (if g_ok (9 : Int32) 10 = true then (f_X15_bestShift_39 g_fuel p1 (0 : Int32) (536870912 : Int32) (0 : Int32) (g_mi q1.2 153 (9 : Int32).toNatClampNeg (q1.2 153 (8 : Int32).toNatClampNeg))) else none) else none)
def f_X15_meanLength_9  : Nat → Int32 → Int32 → MS → Option (UInt64 × MS)
  | 0, _, _, _ => none
  | n + 1, l1, l2, y => if (y 127 2) ≤ l2 then (if (y 127 2) = 0 then (some ((FP.dconst0, y))) else (if g_nan (FP.ddiv (FP.i2d l1) (FP.i2d (y 127 2))) = false then (some ((FP.ddiv (FP.i2d l1) (FP.i2d (y 127 2)), y))) else none)) else (if g_ok l2 10 = true then (f_X15_meanLength_9 n (l1 + (y 153 l2.toNatClampNeg)) (l2 + (1 : Int32)) y) else none)
def f_X15_meanLength (y : MS) : Option (UInt64 × MS) :=
  f_X15_meanLength_9 g_fuel (0 : Int32) (0 : Int32) (g_mi y 120 0 (0 : Int32))
theorem g_sw_X1_isJoin_8 {v : Int32} (h0 : ¬ v = (7 : Int32)) (h1 : ¬ v = (8 : Int32)) (h2 : ¬ v = (9 : Int32)) (h3 : ¬ v = (10 : Int32)) (h4 : ¬ v = (11 : Int32)) (h5 : ¬ v = (12 : Int32)) (h6 : ¬ v = (13 : Int32)) (h7 : ¬ v = (14 : Int32)) (h8 : ¬ v = (15 : Int32)) (h9 : ¬ v = (16 : Int32)) (h10 : ¬ v = (17 : Int32)) (h11 : ¬ v = (18 : Int32)) (h12 : ¬ v = (19 : Int32)) : v.toInt < 7 ∨ 19 < v.toInt := by
  have e0 := g_ne h0 (n := 7) (by decide)
  have e1 := g_ne h1 (n := 8) (by decide)
  have e2 := g_ne h2 (n := 9) (by decide)
  have e3 := g_ne h3 (n := 10) (by decide)
  have e4 := g_ne h4 (n := 11) (by decide)
  have e5 := g_ne h5 (n := 12) (by decide)
  have e6 := g_ne h6 (n := 13) (by decide)
  have e7 := g_ne h7 (n := 14) (by decide)
  have e8 := g_ne h8 (n := 15) (by decide)
  have e9 := g_ne h9 (n := 16) (by decide)
  have e10 := g_ne h10 (n := 17) (by decide)
  have e11 := g_ne h11 (n := 18) (by decide)
  have e12 := g_ne h12 (n := 19) (by decide)
  omega
theorem g_sw_X1_compares_8 {v : Int32} (h0 : ¬ v = (15 : Int32)) (h1 : ¬ v = (16 : Int32)) (h2 : ¬ v = (17 : Int32)) (h3 : ¬ v = (18 : Int32)) (h4 : ¬ v = (19 : Int32)) : v.toInt < 15 ∨ 19 < v.toInt := by
  have e0 := g_ne h0 (n := 15) (by decide)
  have e1 := g_ne h1 (n := 16) (by decide)
  have e2 := g_ne h2 (n := 17) (by decide)
  have e3 := g_ne h3 (n := 18) (by decide)
  have e4 := g_ne h4 (n := 19) (by decide)
  omega
theorem g_sw_X1_join_8 {v : Int32} (h0 : ¬ v = (7 : Int32)) (h1 : ¬ v = (8 : Int32)) (h2 : ¬ v = (9 : Int32)) (h3 : ¬ v = (10 : Int32)) (h4 : ¬ v = (11 : Int32)) (h5 : ¬ v = (12 : Int32)) (h6 : ¬ v = (13 : Int32)) (h7 : ¬ v = (14 : Int32)) : v.toInt < 7 ∨ 14 < v.toInt := by
  have e0 := g_ne h0 (n := 7) (by decide)
  have e1 := g_ne h1 (n := 8) (by decide)
  have e2 := g_ne h2 (n := 9) (by decide)
  have e3 := g_ne h3 (n := 10) (by decide)
  have e4 := g_ne h4 (n := 11) (by decide)
  have e5 := g_ne h5 (n := 12) (by decide)
  have e6 := g_ne h6 (n := 13) (by decide)
  have e7 := g_ne h7 (n := 14) (by decide)
  omega
theorem g_sw_X1_found_8 {v : Int32} (h0 : ¬ v = (1 : Int32)) (h1 : ¬ v = (2 : Int32)) (h2 : ¬ v = (3 : Int32)) (h3 : ¬ v = (4 : Int32)) (h4 : ¬ v = (5 : Int32)) (h5 : ¬ v = (6 : Int32)) : v.toInt < 1 ∨ 6 < v.toInt := by
  have e0 := g_ne h0 (n := 1) (by decide)
  have e1 := g_ne h1 (n := 2) (by decide)
  have e2 := g_ne h2 (n := 3) (by decide)
  have e3 := g_ne h3 (n := 4) (by decide)
  have e4 := g_ne h4 (n := 5) (by decide)
  have e5 := g_ne h5 (n := 6) (by decide)
  omega
theorem g_sw_X15_symbol_1 {v : Int32} (h0 : ¬ v = (40 : Int32)) (h1 : ¬ v = (41 : Int32)) (h2 : ¬ v = (42 : Int32)) (h3 : ¬ v = (43 : Int32)) (h4 : ¬ v = (44 : Int32)) (h5 : ¬ v = (45 : Int32)) (h6 : ¬ v = (46 : Int32)) (h7 : ¬ v = (47 : Int32)) (h8 : ¬ v = (48 : Int32)) (h9 : ¬ v = (49 : Int32)) (h10 : ¬ v = (50 : Int32)) (h11 : ¬ v = (51 : Int32)) (h12 : ¬ v = (52 : Int32)) (h13 : ¬ v = (53 : Int32)) (h14 : ¬ v = (54 : Int32)) (h15 : ¬ v = (55 : Int32)) (h16 : ¬ v = (56 : Int32)) (h17 : ¬ v = (57 : Int32)) (h18 : ¬ v = (58 : Int32)) (h19 : ¬ v = (59 : Int32)) (h20 : ¬ v = (60 : Int32)) (h21 : ¬ v = (61 : Int32)) (h22 : ¬ v = (62 : Int32)) (h23 : ¬ v = (63 : Int32)) (h24 : ¬ v = (64 : Int32)) (h25 : ¬ v = (65 : Int32)) (h26 : ¬ v = (66 : Int32)) (h27 : ¬ v = (67 : Int32)) (h28 : ¬ v = (68 : Int32)) (h29 : ¬ v = (69 : Int32)) (h30 : ¬ v = (70 : Int32)) (h31 : ¬ v = (71 : Int32)) (h32 : ¬ v = (72 : Int32)) (h33 : ¬ v = (73 : Int32)) (h34 : ¬ v = (74 : Int32)) (h35 : ¬ v = (75 : Int32)) (h36 : ¬ v = (76 : Int32)) (h37 : ¬ v = (77 : Int32)) (h38 : ¬ v = (78 : Int32)) (h39 : ¬ v = (79 : Int32)) (h40 : ¬ v = (80 : Int32)) (h41 : ¬ v = (81 : Int32)) (h42 : ¬ v = (82 : Int32)) (h43 : ¬ v = (83 : Int32)) (h44 : ¬ v = (84 : Int32)) (h45 : ¬ v = (85 : Int32)) (h46 : ¬ v = (86 : Int32)) (h47 : ¬ v = (87 : Int32)) (h48 : ¬ v = (88 : Int32)) (h49 : ¬ v = (89 : Int32)) (h50 : ¬ v = (90 : Int32)) (h51 : ¬ v = (91 : Int32)) (h52 : ¬ v = (92 : Int32)) (h53 : ¬ v = (93 : Int32)) : v.toInt < 40 ∨ 93 < v.toInt := by
  have e0 := g_ne h0 (n := 40) (by decide)
  have e1 := g_ne h1 (n := 41) (by decide)
  have e2 := g_ne h2 (n := 42) (by decide)
  have e3 := g_ne h3 (n := 43) (by decide)
  have e4 := g_ne h4 (n := 44) (by decide)
  have e5 := g_ne h5 (n := 45) (by decide)
  have e6 := g_ne h6 (n := 46) (by decide)
  have e7 := g_ne h7 (n := 47) (by decide)
  have e8 := g_ne h8 (n := 48) (by decide)
  have e9 := g_ne h9 (n := 49) (by decide)
  have e10 := g_ne h10 (n := 50) (by decide)
  have e11 := g_ne h11 (n := 51) (by decide)
  have e12 := g_ne h12 (n := 52) (by decide)
  have e13 := g_ne h13 (n := 53) (by decide)
  have e14 := g_ne h14 (n := 54) (by decide)
  have e15 := g_ne h15 (n := 55) (by decide)
  have e16 := g_ne h16 (n := 56) (by decide)
  have e17 := g_ne h17 (n := 57) (by decide)
  have e18 := g_ne h18 (n := 58) (by decide)
  have e19 := g_ne h19 (n := 59) (by decide)
  have e20 := g_ne h20 (n := 60) (by decide)
  have e21 := g_ne h21 (n := 61) (by decide)
  have e22 := g_ne h22 (n := 62) (by decide)
  have e23 := g_ne h23 (n := 63) (by decide)
  have e24 := g_ne h24 (n := 64) (by decide)
  have e25 := g_ne h25 (n := 65) (by decide)
  have e26 := g_ne h26 (n := 66) (by decide)
  have e27 := g_ne h27 (n := 67) (by decide)
  have e28 := g_ne h28 (n := 68) (by decide)
  have e29 := g_ne h29 (n := 69) (by decide)
  have e30 := g_ne h30 (n := 70) (by decide)
  have e31 := g_ne h31 (n := 71) (by decide)
  have e32 := g_ne h32 (n := 72) (by decide)
  have e33 := g_ne h33 (n := 73) (by decide)
  have e34 := g_ne h34 (n := 74) (by decide)
  have e35 := g_ne h35 (n := 75) (by decide)
  have e36 := g_ne h36 (n := 76) (by decide)
  have e37 := g_ne h37 (n := 77) (by decide)
  have e38 := g_ne h38 (n := 78) (by decide)
  have e39 := g_ne h39 (n := 79) (by decide)
  have e40 := g_ne h40 (n := 80) (by decide)
  have e41 := g_ne h41 (n := 81) (by decide)
  have e42 := g_ne h42 (n := 82) (by decide)
  have e43 := g_ne h43 (n := 83) (by decide)
  have e44 := g_ne h44 (n := 84) (by decide)
  have e45 := g_ne h45 (n := 85) (by decide)
  have e46 := g_ne h46 (n := 86) (by decide)
  have e47 := g_ne h47 (n := 87) (by decide)
  have e48 := g_ne h48 (n := 88) (by decide)
  have e49 := g_ne h49 (n := 89) (by decide)
  have e50 := g_ne h50 (n := 90) (by decide)
  have e51 := g_ne h51 (n := 91) (by decide)
  have e52 := g_ne h52 (n := 92) (by decide)
  have e53 := g_ne h53 (n := 93) (by decide)
  omega
theorem g_sw_X15_joined_1 {v : Int32} (h0 : ¬ v = (22 : Int32)) (h1 : ¬ v = (23 : Int32)) (h2 : ¬ v = (24 : Int32)) (h3 : ¬ v = (25 : Int32)) (h4 : ¬ v = (26 : Int32)) (h5 : ¬ v = (27 : Int32)) (h6 : ¬ v = (28 : Int32)) (h7 : ¬ v = (29 : Int32)) (h8 : ¬ v = (30 : Int32)) (h9 : ¬ v = (31 : Int32)) (h10 : ¬ v = (32 : Int32)) (h11 : ¬ v = (33 : Int32)) (h12 : ¬ v = (34 : Int32)) (h13 : ¬ v = (35 : Int32)) (h14 : ¬ v = (36 : Int32)) (h15 : ¬ v = (37 : Int32)) (h16 : ¬ v = (38 : Int32)) (h17 : ¬ v = (39 : Int32)) (h18 : ¬ v = (40 : Int32)) (h19 : ¬ v = (41 : Int32)) (h20 : ¬ v = (42 : Int32)) (h21 : ¬ v = (43 : Int32)) (h22 : ¬ v = (44 : Int32)) (h23 : ¬ v = (45 : Int32)) (h24 : ¬ v = (46 : Int32)) (h25 : ¬ v = (47 : Int32)) : v.toInt < 22 ∨ 47 < v.toInt := by
  have e0 := g_ne h0 (n := 22) (by decide)
  have e1 := g_ne h1 (n := 23) (by decide)
  have e2 := g_ne h2 (n := 24) (by decide)
  have e3 := g_ne h3 (n := 25) (by decide)
  have e4 := g_ne h4 (n := 26) (by decide)
  have e5 := g_ne h5 (n := 27) (by decide)
  have e6 := g_ne h6 (n := 28) (by decide)
  have e7 := g_ne h7 (n := 29) (by decide)
  have e8 := g_ne h8 (n := 30) (by decide)
  have e9 := g_ne h9 (n := 31) (by decide)
  have e10 := g_ne h10 (n := 32) (by decide)
  have e11 := g_ne h11 (n := 33) (by decide)
  have e12 := g_ne h12 (n := 34) (by decide)
  have e13 := g_ne h13 (n := 35) (by decide)
  have e14 := g_ne h14 (n := 36) (by decide)
  have e15 := g_ne h15 (n := 37) (by decide)
  have e16 := g_ne h16 (n := 38) (by decide)
  have e17 := g_ne h17 (n := 39) (by decide)
  have e18 := g_ne h18 (n := 40) (by decide)
  have e19 := g_ne h19 (n := 41) (by decide)
  have e20 := g_ne h20 (n := 42) (by decide)
  have e21 := g_ne h21 (n := 43) (by decide)
  have e22 := g_ne h22 (n := 44) (by decide)
  have e23 := g_ne h23 (n := 45) (by decide)
  have e24 := g_ne h24 (n := 46) (by decide)
  have e25 := g_ne h25 (n := 47) (by decide)
  omega
theorem g_lk_X15_reckon_1 {v : Int32} (h0 : ¬ v = (14 : Int32)) (h1 : ¬ v = (15 : Int32)) (h2 : ¬ v = (16 : Int32)) (h3 : ¬ v = (17 : Int32)) (h4 : ¬ v = (19 : Int32)) (h5 : ¬ v = (20 : Int32)) (h6 : ¬ v = (21 : Int32)) (h7 : ¬ v = (31 : Int32)) (h8 : ¬ v = (60 : Int32)) : Op.lookupswitch.offset [(14, 85), (15, 90), (16, 96), (17, 121), (19, 128), (20, 144), (21, 159), (31, 83), (60, 151)] 168 v.toInt = 168 := by
  have e0 := g_ne h0 (n := 14) (by decide)
  have e1 := g_ne h1 (n := 15) (by decide)
  have e2 := g_ne h2 (n := 16) (by decide)
  have e3 := g_ne h3 (n := 17) (by decide)
  have e4 := g_ne h4 (n := 19) (by decide)
  have e5 := g_ne h5 (n := 20) (by decide)
  have e6 := g_ne h6 (n := 21) (by decide)
  have e7 := g_ne h7 (n := 31) (by decide)
  have e8 := g_ne h8 (n := 60) (by decide)
  simp only [Op.lookupswitch.offset]
  repeat rw [if_neg (fun e => by first | omega | (simp at e; omega))]
theorem k_0 : kd 0 = 1 := by decide
theorem k_1 : kd 1 = 2 := by decide
theorem k_2 : kd 2 = 20 := by decide
theorem k_3 : kd 3 = 3 := by decide
theorem k_4 : kd 4 = 21 := by decide
theorem k_5 : kd 5 = 22 := by decide
theorem k_6 : kd 6 = 22 := by decide
theorem k_7 : kd 7 = 22 := by decide
theorem k_8 : kd 8 = 4 := by decide
theorem k_9 : kd 9 = 23 := by decide
theorem k_10 : kd 10 = 5 := by decide
theorem k_12 : kd 12 = 5 := by decide
theorem k_14 : kd 14 = 5 := by decide
theorem k_16 : kd 16 = 5 := by decide
theorem k_18 : kd 18 = 6 := by decide
theorem k_19 : kd 19 = 25 := by decide
theorem k_120 : kd 120 = 12 := by decide
theorem k_121 : kd 121 = 30 := by decide
theorem k_122 : kd 122 = 31 := by decide
theorem k_123 : kd 123 = 31 := by decide
theorem k_124 : kd 124 = 31 := by decide
theorem k_125 : kd 125 = 31 := by decide
theorem k_126 : kd 126 = 32 := by decide
theorem k_127 : kd 127 = 13 := by decide
theorem k_130 : kd 130 = 35 := by decide
theorem k_131 : kd 131 = 35 := by decide
theorem k_132 : kd 132 = 35 := by decide
theorem k_133 : kd 133 = 35 := by decide
theorem k_134 : kd 134 = 35 := by decide
theorem k_135 : kd 135 = 35 := by decide
theorem k_136 : kd 136 = 36 := by decide
theorem k_137 : kd 137 = 36 := by decide
theorem k_138 : kd 138 = 36 := by decide
theorem k_139 : kd 139 = 13 := by decide
theorem k_140 : kd 140 = 33 := by decide
theorem k_141 : kd 141 = 34 := by decide
theorem k_142 : kd 142 = 35 := by decide
theorem k_143 : kd 143 = 35 := by decide
theorem k_144 : kd 144 = 35 := by decide
theorem k_145 : kd 145 = 35 := by decide
theorem k_146 : kd 146 = 35 := by decide
theorem k_147 : kd 147 = 35 := by decide
theorem k_148 : kd 148 = 36 := by decide
theorem k_149 : kd 149 = 36 := by decide
theorem k_150 : kd 150 = 36 := by decide
theorem k_151 : kd 151 = 36 := by decide
theorem k_152 : kd 152 = 14 := by decide
theorem k_153 : kd 153 = 33 := by decide
theorem k_154 : kd 154 = 34 := by decide
theorem k_155 : kd 155 = 32 := by decide
theorem k_156 : kd 156 = 14 := by decide
theorem k_160 : kd 160 = 37 := by decide
theorem k_162 : kd 162 = 11 := by decide
theorem k_163 : kd 163 = 29 := by decide
