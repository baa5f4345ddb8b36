/-! THE LAW'S MAIN METHOD, from pc 8 on, laid by program (wip/p40/gen/glaw40.py) -/
theorem h_lret {p : Program} {l : Launch} {e : Env} {R : Room} {s : State} {m : MethodId} {args : Array Value} {below : List Frame} {meth : Method} {c : Code} {H : Heap} {locs : List Loc} {cells slots : Nat} {Q : State → Prop} {pc : Nat} {ls : Array Slot} {v : Int32} (hv : v = 1) (K : W p l e R s m args below meth c H locs cells slots Q (F0 m pc ls [.int 1])) : W p l e R s m args below meth c H locs cells slots Q (F0 m pc ls [.int v]) := by
  rw [hv]
  exact K
def f_l_L_law_1192 (L : Nat) (xs : Nat → Int32) (k10 : Int32 → CS → MS → Option (Int32 × CS × MS)) (k94 : Int32 → Nat → Nat → Int32 → Int32 → CS → MS → Option (Int32 × CS × MS)) : Nat → Int32 → Nat → Nat → Int32 → Int32 → Int32 → CS → MS → Option (Int32 × CS × MS)
  | 0, _, _, _, _, _, _, _, _ => none
  | n + 1, l2, l3, l5, l6, l7, l20, x, y => if l6 ≤ l20 then (k94 l2 l3 l5 l6 (l7 + (1 : Int32)) x y) else ((f_X12_isNeedless l20 x).bind fun q147 => if q147.1 = 0 then (if h_K y l5 = 53 then ((f_X12_isPruned l20 q147.2).bind fun q150 => if h_K y (h_R y l5 3) = 62 then (if g_ok l20 (h_N y (h_R y l5 3)) = true then (f_l_L_law_1192 L xs k10 k94 n l2 l3 l5 l6 l7 (l20 + (1 : Int32)) q147.2 (h_wi y (h_R y l5 3) l20.toNatClampNeg (vp_nar .boolean q150))) else none) else none) else none) else (some (((0 : Int32), q147.2, y))))
def f_l_L_law_1124 (L : Nat) (xs : Nat → Int32) (k10 : Int32 → CS → MS → Option (Int32 × CS × MS)) (k94 : Int32 → Nat → Nat → Int32 → Int32 → CS → MS → Option (Int32 × CS × MS)) (k1066 : Int32 → Nat → Nat → Int32 → Int32 → Int32 → Int32 → Int32 → Int32 → Int32 → Int32 → CS → MS → Option (Int32 × CS × MS)) (l2 : Int32) (l3 : Nat) (l5 : Nat) (l6 : Int32) (l7 : Int32) (l14 : Int32) (l15 : Int32) (l16 : Int32) (l17 : Int32) (l18 : Int32) (l19 : Int32) (x : CS) (y : MS) : Option (Int32 × CS × MS) :=
  (f_l_L_meant x y).bind fun q171 => if q171.1 = l14 then (k1066 l2 l3 l5 l6 l7 l14 l15 l16 l17 (l18 ||| (1 : Int32)) (l19 + (1 : Int32)) q171.2.1 q171.2.2) else (k1066 l2 l3 l5 l6 l7 l14 l15 l16 l17 (l18 ||| (0 : Int32)) (l19 + (1 : Int32)) q171.2.1 q171.2.2)
def f_l_L_law_1119 (L : Nat) (xs : Nat → Int32) (k10 : Int32 → CS → MS → Option (Int32 × CS × MS)) (k94 : Int32 → Nat → Nat → Int32 → Int32 → CS → MS → Option (Int32 × CS × MS)) (k1066 : Int32 → Nat → Nat → Int32 → Int32 → Int32 → Int32 → Int32 → Int32 → Int32 → Int32 → CS → MS → Option (Int32 × CS × MS)) (l2 : Int32) (l3 : Nat) (l5 : Nat) (l6 : Int32) (l7 : Int32) (l14 : Int32) (l15 : Int32) (l16 : Int32) (l17 : Int32) (l18 : Int32) (l19 : Int32) (s0 : Int32) (s1 : Int32) (x : CS) (y : MS) : Option (Int32 × CS × MS) :=
  if s1 = s0 then (f_l_L_law_1124 L xs k10 k94 k1066 l2 l3 l5 l6 l7 l14 l15 l16 l17 l18 l19 x y) else (some (((0 : Int32), x, y)))
def f_l_L_law_1107 (L : Nat) (xs : Nat → Int32) (k10 : Int32 → CS → MS → Option (Int32 × CS × MS)) (k94 : Int32 → Nat → Nat → Int32 → Int32 → CS → MS → Option (Int32 × CS × MS)) (k1066 : Int32 → Nat → Nat → Int32 → Int32 → Int32 → Int32 → Int32 → Int32 → Int32 → Int32 → CS → MS → Option (Int32 × CS × MS)) (l2 : Int32) (l3 : Nat) (l5 : Nat) (l6 : Int32) (l7 : Int32) (l14 : Int32) (l15 : Int32) (l16 : Int32) (l17 : Int32) (l18 : Int32) (l19 : Int32) (s0 : Int32) (x : CS) (y : MS) : Option (Int32 × CS × MS) :=
  if l17 = l19 then (f_l_L_law_1119 L xs k10 k94 k1066 l2 l3 l5 l6 l7 l14 l15 l16 l17 l18 l19 (1 : Int32) s0 x y) else (f_l_L_law_1119 L xs k10 k94 k1066 l2 l3 l5 l6 l7 l14 l15 l16 l17 l18 l19 (0 : Int32) s0 x y)
def f_l_L_law_1066 (L : Nat) (xs : Nat → Int32) (k10 : Int32 → CS → MS → Option (Int32 × CS × MS)) (k94 : Int32 → Nat → Nat → Int32 → Int32 → CS → MS → Option (Int32 × CS × MS)) : Nat → Int32 → Nat → Nat → Int32 → Int32 → Int32 → Int32 → Int32 → Int32 → Int32 → Int32 → CS → MS → Option (Int32 × CS × MS)
  | 0, _, _, _, _, _, _, _, _, _, _, _, _, _ => none
  | n + 1, l2, l3, l5, l6, l7, l14, l15, l16, l17, l18, l19, x, y => if l15 < l19 then ((f_X12_keptWords x).bind fun q154 => if q154 = l16 then (k94 l2 l3 l5 l6 (l7 + (1 : Int32)) x y) else (some (((0 : Int32), x, y)))) else ((f_X12_passLessons (1 : Int32) x).bind fun q156 => if h_K y l5 = 53 then ((f_l_X16_pass l5 y).bind fun q158 => if q156.1 = q158.1 then (if l18 = 0 then ((f_l_L_meant q156.2 q158.2).bind fun q161 => if q161.1 = l14 then (f_l_L_law_1107 L xs k10 k94 (f_l_L_law_1066 L xs k10 k94 n) l2 l3 l5 l6 l7 l14 l15 l16 l17 l18 l19 (1 : Int32) q161.2.1 q161.2.2) else (f_l_L_law_1107 L xs k10 k94 (f_l_L_law_1066 L xs k10 k94 n) l2 l3 l5 l6 l7 l14 l15 l16 l17 l18 l19 (0 : Int32) q161.2.1 q161.2.2)) else (f_l_L_law_1124 L xs k10 k94 (f_l_L_law_1066 L xs k10 k94 n) l2 l3 l5 l6 l7 l14 l15 l16 l17 l18 l19 q156.2 q158.2)) else (some (((0 : Int32), q156.2, q158.2)))) else none)
def f_l_L_law_1036 (L : Nat) (xs : Nat → Int32) (k10 : Int32 → CS → MS → Option (Int32 × CS × MS)) (k94 : Int32 → Nat → Nat → Int32 → Int32 → CS → MS → Option (Int32 × CS × MS)) (l2 : Int32) (l3 : Nat) (l5 : Nat) (l6 : Int32) (l7 : Int32) (l11 : Int32) (l14 : Int32) (l15 : Int32) (l16 : Int32) (l17 : Int32) (s0 : Int32) (s1 : Int32) (x : CS) (y : MS) : Option (Int32 × CS × MS) :=
  if s1 = s0 then (if h_K y l3 = 50 then ((f_l_X13_next l3 (2 : Int32) y).bind fun q128 => if q128.1 = 0 then (if l11 = l14 then (f_l_L_law_1066 L xs k10 k94 g_fuel l2 l3 l5 l6 l7 l14 l15 l16 l17 (1 : Int32) (1 : Int32) x q128.2) else (f_l_L_law_1066 L xs k10 k94 g_fuel l2 l3 l5 l6 l7 l14 l15 l16 l17 (0 : Int32) (1 : Int32) x q128.2)) else ((f_X12_keptWords x).bind fun q130 => (f_X12_pruneNeedless x).bind fun q131 => (f_X12_keptWords q131.2).bind fun q132 => if q132 = (q130 - q131.1) then (f_l_L_law_1192 L xs k10 k94 g_fuel l2 l3 l5 l6 l7 (0 : Int32) q131.2 q128.2) else (some (((0 : Int32), q131.2, q128.2))))) else none) else (some (((0 : Int32), x, y)))
def f_l_L_law_1024 (L : Nat) (xs : Nat → Int32) (k10 : Int32 → CS → MS → Option (Int32 × CS × MS)) (k94 : Int32 → Nat → Nat → Int32 → Int32 → CS → MS → Option (Int32 × CS × MS)) (l2 : Int32) (l3 : Nat) (l5 : Nat) (l6 : Int32) (l7 : Int32) (l11 : Int32) (l14 : Int32) (l15 : Int32) (l16 : Int32) (l17 : Int32) (s0 : Int32) (x : CS) (y : MS) : Option (Int32 × CS × MS) :=
  if l11 = l14 then (f_l_L_law_1036 L xs k10 k94 l2 l3 l5 l6 l7 l11 l14 l15 l16 l17 (1 : Int32) s0 x y) else (f_l_L_law_1036 L xs k10 k94 l2 l3 l5 l6 l7 l11 l14 l15 l16 l17 (0 : Int32) s0 x y)
def f_l_L_law_971 (L : Nat) (xs : Nat → Int32) (k10 : Int32 → CS → MS → Option (Int32 × CS × MS)) (k94 : Int32 → Nat → Nat → Int32 → Int32 → CS → MS → Option (Int32 × CS × MS)) (l2 : Int32) (l3 : Nat) (l5 : Nat) (l6 : Int32) (l7 : Int32) (l8 : Int64) (l11 : Int32) (l14 : Int32) (x : CS) (y : MS) : Option (Int32 × CS × MS) :=
  if h_K y l3 = 50 then ((f_l_X13_next l3 (20 : Int32) y).bind fun q79 => (f_X12_keptAfter ((1 : Int32) + q79.1) x).bind fun q80 => (f_X12_lessonsUntilMeant l14 q80.2).bind fun q81 => (f_X12_digest q81.2).bind fun q82 => if (lg_cmp q82.1 l8) = 0 then (if (20 : Int32) < q81.1 then (some (((0 : Int32), q82.2, q79.2))) else (if q81.1 = 0 then (f_l_L_law_1024 L xs k10 k94 l2 l3 l5 l6 l7 l11 l14 ((1 : Int32) + q79.1) q80.1 q81.1 (1 : Int32) q82.2 q79.2) else (f_l_L_law_1024 L xs k10 k94 l2 l3 l5 l6 l7 l11 l14 ((1 : Int32) + q79.1) q80.1 q81.1 (0 : Int32) q82.2 q79.2))) else (some (((0 : Int32), q82.2, q79.2)))) else none
def f_l_L_law_824 (L : Nat) (xs : Nat → Int32) (k10 : Int32 → CS → MS → Option (Int32 × CS × MS)) (k94 : Int32 → Nat → Nat → Int32 → Int32 → CS → MS → Option (Int32 × CS × MS)) (l2 : Int32) (l3 : Nat) (l5 : Nat) (l6 : Int32) (l7 : Int32) (l8 : Int64) (l10 : Int32) (l11 : Int32) (x : CS) (y : MS) : Option (Int32 × CS × MS) :=
  if h_K y l3 = 50 then ((f_l_X13_next l3 l6 y).bind fun q43 => if l10 ≤ 0 then (f_l_L_law_971 L xs k10 k94 l2 l3 l5 l6 l7 l8 l11 q43.1 x q43.2) else ((f_X12_bestShift q43.1 x).bind fun q45 => if h_K q43.2 l3 = 50 then ((f_l_X13_next l3 (79 : Int32) q43.2).bind fun q47 => if h_K q47.2 l5 = 53 then (if h_K q47.2 (h_R q47.2 l5 2) = 63 then (if g_ok q43.1 (h_N q47.2 (h_R q47.2 l5 2)) = true then ((f_l_X16_shifted (h_R q47.2 l5 4) q45.1.toInt64 q47.2).bind fun q51 => if h_K q51.2 l5 = 53 then ((f_l_X16_far l5 (h_R q47.2 (h_R q47.2 l5 2) q43.1.toNatClampNeg) q51.1 q51.2).bind fun q53 => if h_K q53.2 l5 = 53 then (if h_K q53.2 (h_R q53.2 l5 2) = 63 then (if g_ok q43.1 (h_N q53.2 (h_R q53.2 l5 2)) = true then ((f_l_X16_shifted (h_R q53.2 l5 4) ((q47.1 - (39 : Int32)).toInt64) q53.2).bind fun q57 => if h_K q57.2 l5 = 53 then ((f_l_X16_far l5 (h_R q53.2 (h_R q53.2 l5 2) q43.1.toNatClampNeg) q57.1 q57.2).bind fun q59 => if q45.1 < (-39 : Int32) then (some (((0 : Int32), q45.2, q59.2))) else (if (39 : Int32) < q45.1 then (some (((0 : Int32), q45.2, q59.2))) else (if q59.1 < q53.1 then (some (((0 : Int32), q45.2, q59.2))) else (if q59.1 = q53.1 then (if (g_abs (q47.1 - (39 : Int32))) < (g_abs q45.1) then (some (((0 : Int32), q45.2, q59.2))) else (if (g_abs (q47.1 - (39 : Int32))) = (g_abs q45.1) then (if (q47.1 - (39 : Int32)) ≤ q45.1 then (f_l_L_law_971 L xs k10 k94 l2 l3 l5 l6 l7 l8 l11 q43.1 q45.2 q59.2) else (some (((0 : Int32), q45.2, q59.2)))) else (f_l_L_law_971 L xs k10 k94 l2 l3 l5 l6 l7 l8 l11 q43.1 q45.2 q59.2))) else (f_l_L_law_971 L xs k10 k94 l2 l3 l5 l6 l7 l8 l11 q43.1 q45.2 q59.2))))) else none) else none) else none) else none) else none) else none) else none) else none) else none)) else none
def f_l_L_law_819 (L : Nat) (xs : Nat → Int32) (k10 : Int32 → CS → MS → Option (Int32 × CS × MS)) (k94 : Int32 → Nat → Nat → Int32 → Int32 → CS → MS → Option (Int32 × CS × MS)) (l2 : Int32) (l3 : Nat) (l5 : Nat) (l6 : Int32) (l7 : Int32) (l8 : Int64) (l10 : Int32) (l11 : Int32) (s0 : Int32) (s1 : Int32) (x : CS) (y : MS) : Option (Int32 × CS × MS) :=
  if s1 = s0 then (f_l_L_law_824 L xs k10 k94 l2 l3 l5 l6 l7 l8 l10 l11 x y) else (some (((0 : Int32), x, y)))
def f_l_L_law_757 (L : Nat) (xs : Nat → Int32) (k10 : Int32 → CS → MS → Option (Int32 × CS × MS)) (k94 : Int32 → Nat → Nat → Int32 → Int32 → CS → MS → Option (Int32 × CS × MS)) (k215 : Int32 → Nat → Nat → Int32 → Int32 → Int64 → Int32 → Int32 → Int32 → Int32 → Int32 → CS → MS → Option (Int32 × CS × MS)) (l2 : Int32) (l3 : Nat) (l5 : Nat) (l6 : Int32) (l7 : Int32) (l8 : Int64) (l10 : Int32) (l11 : Int32) (l12 : Int32) (l13 : Int32) (l14 : Int32) (l18 : Int32) (x : CS) (y : MS) : Option (Int32 × CS × MS) :=
  if l14 = l11 then (k215 l2 l3 l5 l6 l7 l8 l10 l11 l12 l13 (l14 + (1 : Int32)) x y) else (if l13 < 0 then (k215 l2 l3 l5 l6 l7 l8 l10 l11 l12 l14 (l14 + (1 : Int32)) x y) else ((f_X12_distanceTo l13 x).bind fun q137 => if q137 ≤ l18 then (k215 l2 l3 l5 l6 l7 l8 l10 l11 l12 l13 (l14 + (1 : Int32)) x y) else (k215 l2 l3 l5 l6 l7 l8 l10 l11 l12 l14 (l14 + (1 : Int32)) x y)))
def f_l_L_law_631 (L : Nat) (xs : Nat → Int32) (k10 : Int32 → CS → MS → Option (Int32 × CS × MS)) (k94 : Int32 → Nat → Nat → Int32 → Int32 → CS → MS → Option (Int32 × CS × MS)) (k215 : Int32 → Nat → Nat → Int32 → Int32 → Int64 → Int32 → Int32 → Int32 → Int32 → Int32 → CS → MS → Option (Int32 × CS × MS)) (l2 : Int32) (l3 : Nat) (l5 : Nat) (l6 : Int32) (l7 : Int32) (l8 : Int64) (l10 : Int32) (l11 : Int32) (l12 : Int32) (l13 : Int32) (l14 : Int32) (l15 : Int32) (s0 : Int32) (s1 : Int32) (x : CS) (y : MS) : Option (Int32 × CS × MS) :=
  if s1 = s0 then (if l10 = 0 then (k215 l2 l3 l5 l6 l7 l8 l10 l11 l12 l13 (l14 + (1 : Int32)) x y) else ((f_X12_distanceTo l14 x).bind fun q105 => (f_X12_stepsTo l14 x).bind fun q106 => if q106.1 < (g_max l15 l10) then (some (((0 : Int32), q106.2, y))) else (if (l15 + l10) ≤ q106.1 then (some (((0 : Int32), q106.2, y))) else (if q105 < 0 then (some (((0 : Int32), q106.2, y))) else ((f_X12_contourTo l14 q106.2).bind fun q110 => if q110.1 < 0 then (some (((0 : Int32), q110.2, y))) else ((f_X12_contourTo l14 q110.2).bind fun q112 => if q112.1 ≤ ((l15 + l10) - (1 : Int32)) then ((f_X12_isPruned l14 q112.2).bind fun q114 => if q114 = 0 then ((f_X12_distanceTo l11 q112.2).bind fun q116 => if q105 < q116 then (some (((0 : Int32), q112.2, y))) else ((f_X12_distanceTo l11 q112.2).bind fun q118 => if q105 = q118 then (if l11 ≤ l14 then (f_l_L_law_757 L xs k10 k94 k215 l2 l3 l5 l6 l7 l8 l10 l11 l12 l13 l14 q105 q112.2 y) else (some (((0 : Int32), q112.2, y)))) else (f_l_L_law_757 L xs k10 k94 k215 l2 l3 l5 l6 l7 l8 l10 l11 l12 l13 l14 q105 q112.2 y))) else (k215 l2 l3 l5 l6 l7 l8 l10 l11 l12 l13 (l14 + (1 : Int32)) q112.2 y)) else (some (((0 : Int32), q112.2, y))))))))) else (some (((0 : Int32), x, y)))
def f_l_L_law_630 (L : Nat) (xs : Nat → Int32) (k10 : Int32 → CS → MS → Option (Int32 × CS × MS)) (k94 : Int32 → Nat → Nat → Int32 → Int32 → CS → MS → Option (Int32 × CS × MS)) (k215 : Int32 → Nat → Nat → Int32 → Int32 → Int64 → Int32 → Int32 → Int32 → Int32 → Int32 → CS → MS → Option (Int32 × CS × MS)) (l2 : Int32) (l3 : Nat) (l5 : Nat) (l6 : Int32) (l7 : Int32) (l8 : Int64) (l10 : Int32) (l11 : Int32) (l12 : Int32) (l13 : Int32) (l14 : Int32) (l15 : Int32) (s0 : Int32) (x : CS) (y : MS) : Option (Int32 × CS × MS) :=
  f_l_L_law_631 L xs k10 k94 k215 l2 l3 l5 l6 l7 l8 l10 l11 l12 l13 l14 l15 (0 : Int32) s0 x y
def f_l_L_law_563 (L : Nat) (xs : Nat → Int32) (k10 : Int32 → CS → MS → Option (Int32 × CS × MS)) (k94 : Int32 → Nat → Nat → Int32 → Int32 → CS → MS → Option (Int32 × CS × MS)) (k215 : Int32 → Nat → Nat → Int32 → Int32 → Int64 → Int32 → Int32 → Int32 → Int32 → Int32 → CS → MS → Option (Int32 × CS × MS)) (k334 : Int32 → Nat → Nat → Int32 → Int32 → Int64 → Int32 → Int32 → Int32 → Int32 → Int32 → Int32 → Int32 → Int32 → Int32 → CS → MS → Option (Int32 × CS × MS)) (l2 : Int32) (l3 : Nat) (l5 : Nat) (l6 : Int32) (l7 : Int32) (l8 : Int64) (l10 : Int32) (l11 : Int32) (l12 : Int32) (l13 : Int32) (l14 : Int32) (l15 : Int32) (l16 : Int32) (l17 : Int32) (l18 : Int32) (x : CS) (y : MS) : Option (Int32 × CS × MS) :=
  if l14 ≤ l18 then (k334 l2 l3 l5 l6 l7 l8 l10 l11 l12 l13 l14 l15 l16 (l17 ||| (0 : Int32)) (l18 + (1 : Int32)) x y) else ((f_X12_isPruned l18 x).bind fun q175 => if q175 = 0 then ((f_X12_areNear l14 l18 x).bind fun q177 => if q177.1 = 0 then (k334 l2 l3 l5 l6 l7 l8 l10 l11 l12 l13 l14 l15 l16 (l17 ||| (0 : Int32)) (l18 + (1 : Int32)) q177.2 y) else (k334 l2 l3 l5 l6 l7 l8 l10 l11 l12 l13 l14 l15 l16 (l17 ||| (1 : Int32)) (l18 + (1 : Int32)) q177.2 y)) else (k334 l2 l3 l5 l6 l7 l8 l10 l11 l12 l13 l14 l15 l16 (l17 ||| (0 : Int32)) (l18 + (1 : Int32)) x y))
def f_l_L_law_510 (L : Nat) (xs : Nat → Int32) (k10 : Int32 → CS → MS → Option (Int32 × CS × MS)) (k94 : Int32 → Nat → Nat → Int32 → Int32 → CS → MS → Option (Int32 × CS × MS)) (k215 : Int32 → Nat → Nat → Int32 → Int32 → Int64 → Int32 → Int32 → Int32 → Int32 → Int32 → CS → MS → Option (Int32 × CS × MS)) (k334 : Int32 → Nat → Nat → Int32 → Int32 → Int64 → Int32 → Int32 → Int32 → Int32 → Int32 → Int32 → Int32 → Int32 → Int32 → CS → MS → Option (Int32 × CS × MS)) (l2 : Int32) (l3 : Nat) (l5 : Nat) (l6 : Int32) (l7 : Int32) (l8 : Int64) (l10 : Int32) (l11 : Int32) (l12 : Int32) (l13 : Int32) (l14 : Int32) (l15 : Int32) (l16 : Int32) (l17 : Int32) (l18 : Int32) (l19 : Int32) (s0 : Int32) (s1 : Int32) (x : CS) (y : MS) : Option (Int32 × CS × MS) :=
  if s1 = s0 then (if l14 = l18 then (f_l_L_law_563 L xs k10 k94 k215 k334 l2 l3 l5 l6 l7 l8 l10 l11 l12 l13 l14 l15 l16 l17 l18 x y) else (if l6 ≤ (1 : Int32) then (f_l_L_law_563 L xs k10 k94 k215 k334 l2 l3 l5 l6 l7 l8 l10 l11 l12 l13 l14 l15 l16 l17 l18 x y) else ((f_X12_distanceBetween l14 l16 x).bind fun q166 => if l19 < q166.1 then (some (((0 : Int32), q166.2, y))) else ((f_X12_distanceBetween l14 l16 q166.2).bind fun q168 => if l19 = q168.1 then (if l16 ≤ l18 then (f_l_L_law_563 L xs k10 k94 k215 k334 l2 l3 l5 l6 l7 l8 l10 l11 l12 l13 l14 l15 l16 l17 l18 q168.2 y) else (some (((0 : Int32), q168.2, y)))) else (f_l_L_law_563 L xs k10 k94 k215 k334 l2 l3 l5 l6 l7 l8 l10 l11 l12 l13 l14 l15 l16 l17 l18 q168.2 y))))) else (some (((0 : Int32), x, y)))
def f_l_L_law_509 (L : Nat) (xs : Nat → Int32) (k10 : Int32 → CS → MS → Option (Int32 × CS × MS)) (k94 : Int32 → Nat → Nat → Int32 → Int32 → CS → MS → Option (Int32 × CS × MS)) (k215 : Int32 → Nat → Nat → Int32 → Int32 → Int64 → Int32 → Int32 → Int32 → Int32 → Int32 → CS → MS → Option (Int32 × CS × MS)) (k334 : Int32 → Nat → Nat → Int32 → Int32 → Int64 → Int32 → Int32 → Int32 → Int32 → Int32 → Int32 → Int32 → Int32 → Int32 → CS → MS → Option (Int32 × CS × MS)) (l2 : Int32) (l3 : Nat) (l5 : Nat) (l6 : Int32) (l7 : Int32) (l8 : Int64) (l10 : Int32) (l11 : Int32) (l12 : Int32) (l13 : Int32) (l14 : Int32) (l15 : Int32) (l16 : Int32) (l17 : Int32) (l18 : Int32) (l19 : Int32) (s0 : Int32) (x : CS) (y : MS) : Option (Int32 × CS × MS) :=
  f_l_L_law_510 L xs k10 k94 k215 k334 l2 l3 l5 l6 l7 l8 l10 l11 l12 l13 l14 l15 l16 l17 l18 l19 (0 : Int32) s0 x y
def f_l_L_law_453 (L : Nat) (xs : Nat → Int32) (k10 : Int32 → CS → MS → Option (Int32 × CS × MS)) (k94 : Int32 → Nat → Nat → Int32 → Int32 → CS → MS → Option (Int32 × CS × MS)) (k215 : Int32 → Nat → Nat → Int32 → Int32 → Int64 → Int32 → Int32 → Int32 → Int32 → Int32 → CS → MS → Option (Int32 × CS × MS)) (k334 : Int32 → Nat → Nat → Int32 → Int32 → Int64 → Int32 → Int32 → Int32 → Int32 → Int32 → Int32 → Int32 → Int32 → Int32 → CS → MS → Option (Int32 × CS × MS)) (l2 : Int32) (l3 : Nat) (l5 : Nat) (l6 : Int32) (l7 : Int32) (l8 : Int64) (l10 : Int32) (l11 : Int32) (l12 : Int32) (l13 : Int32) (l14 : Int32) (l15 : Int32) (l16 : Int32) (l17 : Int32) (l18 : Int32) (l19 : Int32) (l20 : Int32) (x : CS) (y : MS) : Option (Int32 × CS × MS) :=
  (f_X12_contourBetween l14 l18 x).bind fun q139 => (f_X12_lengthOf l18 q139.2).bind fun q140 => if ((l15 + q140) - (1 : Int32)) < q139.1 then (some (((0 : Int32), q139.2, y))) else ((f_X12_areNear l14 l18 q139.2).bind fun q142 => if l14 = l18 then (f_l_L_law_509 L xs k10 k94 k215 k334 l2 l3 l5 l6 l7 l8 l10 l11 l12 l13 l14 l15 l16 l17 l18 l19 q142.1 q142.2 y) else (if h_K y l5 = 53 then (if (((h_I y l5 1) * l20) / (4 : Int32)) ≤ l19 then (f_l_L_law_509 L xs k10 k94 k215 k334 l2 l3 l5 l6 l7 l8 l10 l11 l12 l13 l14 l15 l16 l17 l18 l19 q142.1 q142.2 y) else (f_l_L_law_510 L xs k10 k94 k215 k334 l2 l3 l5 l6 l7 l8 l10 l11 l12 l13 l14 l15 l16 l17 l18 l19 (1 : Int32) q142.1 q142.2 y)) else none))
def f_l_L_law_421 (L : Nat) (xs : Nat → Int32) (k10 : Int32 → CS → MS → Option (Int32 × CS × MS)) (k94 : Int32 → Nat → Nat → Int32 → Int32 → CS → MS → Option (Int32 × CS × MS)) (k215 : Int32 → Nat → Nat → Int32 → Int32 → Int64 → Int32 → Int32 → Int32 → Int32 → Int32 → CS → MS → Option (Int32 × CS × MS)) (k334 : Int32 → Nat → Nat → Int32 → Int32 → Int64 → Int32 → Int32 → Int32 → Int32 → Int32 → Int32 → Int32 → Int32 → Int32 → CS → MS → Option (Int32 × CS × MS)) (l2 : Int32) (l3 : Nat) (l5 : Nat) (l6 : Int32) (l7 : Int32) (l8 : Int64) (l10 : Int32) (l11 : Int32) (l12 : Int32) (l13 : Int32) (l14 : Int32) (l15 : Int32) (l16 : Int32) (l17 : Int32) (l18 : Int32) (l19 : Int32) (l20 : Int32) (l21 : Int32) (x : CS) (y : MS) : Option (Int32 × CS × MS) :=
  (f_X12_distanceBetween l18 l14 x).bind fun q121 => if l19 = q121.1 then (if l19 < l21 then (some (((0 : Int32), q121.2, y))) else (if l14 = l18 then (if l19 = 0 then (f_l_L_law_453 L xs k10 k94 k215 k334 l2 l3 l5 l6 l7 l8 l10 l11 l12 l13 l14 l15 l16 l17 l18 l19 l20 q121.2 y) else (some (((0 : Int32), q121.2, y)))) else (f_l_L_law_453 L xs k10 k94 k215 k334 l2 l3 l5 l6 l7 l8 l10 l11 l12 l13 l14 l15 l16 l17 l18 l19 l20 q121.2 y))) else (some (((0 : Int32), q121.2, y)))
def f_l_L_law_334 (L : Nat) (xs : Nat → Int32) (k10 : Int32 → CS → MS → Option (Int32 × CS × MS)) (k94 : Int32 → Nat → Nat → Int32 → Int32 → CS → MS → Option (Int32 × CS × MS)) (k215 : Int32 → Nat → Nat → Int32 → Int32 → Int64 → Int32 → Int32 → Int32 → Int32 → Int32 → CS → MS → Option (Int32 × CS × MS)) : Nat → Int32 → Nat → Nat → Int32 → Int32 → Int64 → Int32 → Int32 → Int32 → Int32 → Int32 → Int32 → Int32 → Int32 → Int32 → CS → MS → Option (Int32 × CS × MS)
  | 0, _, _, _, _, _, _, _, _, _, _, _, _, _, _, _, _, _ => none
  | n + 1, l2, l3, l5, l6, l7, l8, l10, l11, l12, l13, l14, l15, l16, l17, l18, x, y => if l6 ≤ l18 then ((f_X12_isNeedless l14 x).bind fun q87 => if l17 = 0 then (f_l_L_law_630 L xs k10 k94 k215 l2 l3 l5 l6 l7 l8 l10 l11 l12 l13 l14 l15 q87.1 q87.2 y) else ((f_X12_isPruned l14 q87.2).bind fun q89 => if q89 = 0 then (f_l_L_law_631 L xs k10 k94 k215 l2 l3 l5 l6 l7 l8 l10 l11 l12 l13 l14 l15 (1 : Int32) q87.1 q87.2 y) else (f_l_L_law_630 L xs k10 k94 k215 l2 l3 l5 l6 l7 l8 l10 l11 l12 l13 l14 l15 q87.1 q87.2 y))) else ((f_X12_distanceBetween l14 l18 x).bind fun q91 => (f_X12_lengthOf l18 q91.2).bind fun q92 => (f_X12_pitchAt l14 (0 : Int32) q91.2).bind fun q93 => (f_X12_pitchAt l18 (0 : Int32) q91.2).bind fun q94 => (f_l_X16_apart q93 q94).bind fun q95 => if (g_max l15 q92) ≤ (1 : Int32) then (f_l_L_law_421 L xs k10 k94 k215 (f_l_L_law_334 L xs k10 k94 k215 n) l2 l3 l5 l6 l7 l8 l10 l11 l12 l13 l14 l15 l16 l17 l18 q91.1 (g_max l15 q92) q95 q91.2 y) else ((f_X12_pitchAt l14 (l15 - (1 : Int32)) q91.2).bind fun q97 => (f_X12_lengthOf l18 q91.2).bind fun q98 => (f_X12_pitchAt l18 (q98 - (1 : Int32)) q91.2).bind fun q99 => (f_l_X16_apart q97 q99).bind fun q100 => f_l_L_law_421 L xs k10 k94 k215 (f_l_L_law_334 L xs k10 k94 k215 n) l2 l3 l5 l6 l7 l8 l10 l11 l12 l13 l14 l15 l16 l17 l18 q91.1 (g_max l15 q92) (q95 + q100) q91.2 y))
def f_l_L_law_298 (L : Nat) (xs : Nat → Int32) (k10 : Int32 → CS → MS → Option (Int32 × CS × MS)) (k94 : Int32 → Nat → Nat → Int32 → Int32 → CS → MS → Option (Int32 × CS × MS)) (k215 : Int32 → Nat → Nat → Int32 → Int32 → Int64 → Int32 → Int32 → Int32 → Int32 → Int32 → CS → MS → Option (Int32 × CS × MS)) (k233 : Int32 → Nat → Nat → Int32 → Int32 → Int64 → Int32 → Int32 → Int32 → Int32 → Int32 → Int32 → Int32 → CS → MS → Option (Int32 × CS × MS)) (l2 : Int32) (l3 : Nat) (l5 : Nat) (l6 : Int32) (l7 : Int32) (l8 : Int64) (l10 : Int32) (l11 : Int32) (l12 : Int32) (l13 : Int32) (l14 : Int32) (l15 : Int32) (l16 : Int32) (s0 : Int32) (s1 : Int32) (x : CS) (y : MS) : Option (Int32 × CS × MS) :=
  if s1 = s0 then (k233 l2 l3 l5 l6 l7 l8 l10 l11 l12 l13 l14 l15 (l16 + (1 : Int32)) x y) else (some (((0 : Int32), x, y)))
def f_l_L_law_233 (L : Nat) (xs : Nat → Int32) (k10 : Int32 → CS → MS → Option (Int32 × CS × MS)) (k94 : Int32 → Nat → Nat → Int32 → Int32 → CS → MS → Option (Int32 × CS × MS)) (k215 : Int32 → Nat → Nat → Int32 → Int32 → Int64 → Int32 → Int32 → Int32 → Int32 → Int32 → CS → MS → Option (Int32 × CS × MS)) : Nat → Int32 → Nat → Nat → Int32 → Int32 → Int64 → Int32 → Int32 → Int32 → Int32 → Int32 → Int32 → Int32 → CS → MS → Option (Int32 × CS × MS)
  | 0, _, _, _, _, _, _, _, _, _, _, _, _, _, _, _ => none
  | n + 1, l2, l3, l5, l6, l7, l8, l10, l11, l12, l13, l14, l15, l16, x, y => if l15 ≤ l16 then (if l6 ≤ (1 : Int32) then (f_l_L_law_334 L xs k10 k94 k215 g_fuel l2 l3 l5 l6 l7 l8 l10 l11 l12 l13 l14 l15 l14 (0 : Int32) (0 : Int32) x y) else ((f_X12_nearestTo l14 x).bind fun q70 => f_l_L_law_334 L xs k10 k94 k215 g_fuel l2 l3 l5 l6 l7 l8 l10 l11 l12 l13 l14 l15 q70.1 (0 : Int32) (0 : Int32) q70.2 y)) else ((f_X12_pitchAt l14 l16 x).bind fun q71 => if q71 < 0 then (some (((0 : Int32), x, y))) else (if (40 : Int32) < q71 then (some (((0 : Int32), x, y))) else ((f_X12_contourAt l14 l16 x).bind fun q74 => if (l16 + (1 : Int32)) = l15 then (f_l_L_law_298 L xs k10 k94 k215 (f_l_L_law_233 L xs k10 k94 k215 n) l2 l3 l5 l6 l7 l8 l10 l11 l12 l13 l14 l15 l16 (0 : Int32) q74 x y) else ((f_X12_pitchAt l14 (l16 + (1 : Int32)) x).bind fun q76 => (f_l_J6_compare_7cf53 q76 q71).bind fun q77 => f_l_L_law_298 L xs k10 k94 k215 (f_l_L_law_233 L xs k10 k94 k215 n) l2 l3 l5 l6 l7 l8 l10 l11 l12 l13 l14 l15 l16 q77 q74 x y))))
def f_l_L_law_215 (L : Nat) (xs : Nat → Int32) (k10 : Int32 → CS → MS → Option (Int32 × CS × MS)) (k94 : Int32 → Nat → Nat → Int32 → Int32 → CS → MS → Option (Int32 × CS × MS)) : Nat → Int32 → Nat → Nat → Int32 → Int32 → Int64 → Int32 → Int32 → Int32 → Int32 → Int32 → CS → MS → Option (Int32 × CS × MS)
  | 0, _, _, _, _, _, _, _, _, _, _, _, _, _ => none
  | n + 1, l2, l3, l5, l6, l7, l8, l10, l11, l12, l13, l14, x, y => if l6 ≤ l14 then (if l11 < 0 then (f_l_L_law_824 L xs k10 k94 l2 l3 l5 l6 l7 l8 l10 l11 x y) else (if 0 ≤ l13 then ((f_X12_distanceTo l13 x).bind fun q39 => (f_X12_distanceTo l11 x).bind fun q40 => f_l_L_law_819 L xs k10 k94 l2 l3 l5 l6 l7 l8 l10 l11 (q39 - q40) l12 x y) else (f_l_L_law_819 L xs k10 k94 l2 l3 l5 l6 l7 l8 l10 l11 (-1 : Int32) l12 x y))) else ((f_X12_lengthOf l14 x).bind fun q41 => f_l_L_law_233 L xs k10 k94 (f_l_L_law_215 L xs k10 k94 n) g_fuel l2 l3 l5 l6 l7 l8 l10 l11 l12 l13 l14 q41 (0 : Int32) x y)
def f_l_L_law_204 (L : Nat) (xs : Nat → Int32) (k10 : Int32 → CS → MS → Option (Int32 × CS × MS)) (k94 : Int32 → Nat → Nat → Int32 → Int32 → CS → MS → Option (Int32 × CS × MS)) (l2 : Int32) (l3 : Nat) (l5 : Nat) (l6 : Int32) (l7 : Int32) (l8 : Int64) (l10 : Int32) (l11 : Int32) (l12 : Int32) (s0 : Int32) (s1 : Int32) (x : CS) (y : MS) : Option (Int32 × CS × MS) :=
  if s1 = s0 then (f_l_L_law_215 L xs k10 k94 g_fuel l2 l3 l5 l6 l7 l8 l10 l11 l12 (-1 : Int32) (0 : Int32) x y) else (some (((0 : Int32), x, y)))
def f_l_L_law_192 (L : Nat) (xs : Nat → Int32) (k10 : Int32 → CS → MS → Option (Int32 × CS × MS)) (k94 : Int32 → Nat → Nat → Int32 → Int32 → CS → MS → Option (Int32 × CS × MS)) (l2 : Int32) (l3 : Nat) (l5 : Nat) (l6 : Int32) (l7 : Int32) (l8 : Int64) (l10 : Int32) (l11 : Int32) (l12 : Int32) (s0 : Int32) (x : CS) (y : MS) : Option (Int32 × CS × MS) :=
  if l12 = (-2 : Int32) then (f_l_L_law_204 L xs k10 k94 l2 l3 l5 l6 l7 l8 l10 l11 l12 (1 : Int32) s0 x y) else (f_l_L_law_204 L xs k10 k94 l2 l3 l5 l6 l7 l8 l10 l11 l12 (0 : Int32) s0 x y)
def f_l_L_law_179 (L : Nat) (xs : Nat → Int32) (k10 : Int32 → CS → MS → Option (Int32 × CS × MS)) (k94 : Int32 → Nat → Nat → Int32 → Int32 → CS → MS → Option (Int32 × CS × MS)) (l2 : Int32) (l3 : Nat) (l5 : Nat) (l6 : Int32) (l7 : Int32) (l8 : Int64) (l10 : Int32) (l11 : Int32) (l12 : Int32) (s0 : Int32) (s1 : Int32) (x : CS) (y : MS) : Option (Int32 × CS × MS) :=
  if s1 = s0 then (if 0 ≤ l11 then (f_l_L_law_192 L xs k10 k94 l2 l3 l5 l6 l7 l8 l10 l11 l12 (0 : Int32) x y) else (f_l_L_law_192 L xs k10 k94 l2 l3 l5 l6 l7 l8 l10 l11 l12 (1 : Int32) x y)) else (some (((0 : Int32), x, y)))
def f_l_L_law_174 (L : Nat) (xs : Nat → Int32) (k10 : Int32 → CS → MS → Option (Int32 × CS × MS)) (k94 : Int32 → Nat → Nat → Int32 → Int32 → CS → MS → Option (Int32 × CS × MS)) (l2 : Int32) (l3 : Nat) (l5 : Nat) (l6 : Int32) (l7 : Int32) (l8 : Int64) (l10 : Int32) (l11 : Int32) (l12 : Int32) (s0 : Int32) (x : CS) (y : MS) : Option (Int32 × CS × MS) :=
  f_l_L_law_179 L xs k10 k94 l2 l3 l5 l6 l7 l8 l10 l11 l12 (1 : Int32) s0 x y
def f_l_L_law_162 (L : Nat) (xs : Nat → Int32) (k10 : Int32 → CS → MS → Option (Int32 × CS × MS)) (k94 : Int32 → Nat → Nat → Int32 → Int32 → CS → MS → Option (Int32 × CS × MS)) (l2 : Int32) (l3 : Nat) (l5 : Nat) (l6 : Int32) (l7 : Int32) (l8 : Int64) (l10 : Int32) (l11 : Int32) (l12 : Int32) (s0 : Int32) (x : CS) (y : MS) : Option (Int32 × CS × MS) :=
  if l10 = 0 then (f_l_L_law_174 L xs k10 k94 l2 l3 l5 l6 l7 l8 l10 l11 l12 s0 x y) else ((f_X12_keptWords x).bind fun q30 => if q30 = 0 then (f_l_L_law_174 L xs k10 k94 l2 l3 l5 l6 l7 l8 l10 l11 l12 s0 x y) else (f_l_L_law_179 L xs k10 k94 l2 l3 l5 l6 l7 l8 l10 l11 l12 (0 : Int32) s0 x y))
def f_l_L_law_104 (L : Nat) (xs : Nat → Int32) (k10 : Int32 → CS → MS → Option (Int32 × CS × MS)) (k94 : Int32 → Nat → Nat → Int32 → Int32 → CS → MS → Option (Int32 × CS × MS)) : Nat → Int32 → Nat → Nat → Int32 → Int32 → Int32 → CS → MS → Option (Int32 × CS × MS)
  | 0, _, _, _, _, _, _, _, _ => none
  | n + 1, l2, l3, l5, l6, l7, l8, x, y => if (3 : Int32) ≤ l8 then ((f_X12_digest x).bind fun q22 => (f_X12_heardBeats q22.2).bind fun q23 => (f_l_L_meant q22.2 y).bind fun q24 => (f_l_L_surety q24.2.1 q24.2.2).bind fun q25 => if 0 ≤ q24.1 then (f_l_L_law_162 L xs k10 k94 l2 l3 l5 l6 l7 q22.1 q23 q24.1 q25.1 (0 : Int32) q25.2.1 q25.2.2) else (f_l_L_law_162 L xs k10 k94 l2 l3 l5 l6 l7 q22.1 q23 q24.1 q25.1 (1 : Int32) q25.2.1 q25.2.2)) else ((f_l_L_act l5 l3 x y).bind fun q27 => if q27.1 = 0 then (some (((0 : Int32), q27.2.1, q27.2.2))) else (f_l_L_law_104 L xs k10 k94 n l2 l3 l5 l6 l7 (l8 + (1 : Int32)) q27.2.1 q27.2.2))
def f_l_L_law_94 (L : Nat) (xs : Nat → Int32) (k10 : Int32 → CS → MS → Option (Int32 × CS × MS)) : Nat → Int32 → Nat → Nat → Int32 → Int32 → CS → MS → Option (Int32 × CS × MS)
  | 0, _, _, _, _, _, _, _ => none
  | n + 1, l2, l3, l5, l6, l7, x, y => if (6 : Int32) ≤ l7 then (if h_K y l5 = 53 then ((f_l_X16_isSame l5 x y).bind fun q19 => if q19.1 = 0 then (some (((0 : Int32), q19.2.1, q19.2.2))) else (k10 (l2 + (1 : Int32)) q19.2.1 q19.2.2)) else none) else (f_l_L_law_104 L xs k10 (f_l_L_law_94 L xs k10 n) g_fuel l2 l3 l5 l6 l7 (0 : Int32) x y)
def f_l_L_law_10 (L : Nat) (xs : Nat → Int32) : Nat → Int32 → CS → MS → Option (Int32 × CS × MS)
  | 0, _, _, _ => none
  | n + 1, l2, x, y => if (2 : Int32) ≤ l2 then (some (((1 : Int32), x, y))) else (if h_rm y 1 = true then ((f_l_L_cell L xs l2).bind fun q3 => (f_l_L_cell L xs (l2 + (3 : Int32))).bind fun q4 => (f_l_L_cell L xs (l2 + (6 : Int32))).bind fun q5 => if h_K (h_new y 50 (fun _ => 0) (fun _ => 0) 0 1) (h_nx y) = 50 then ((f_l_X13_init (h_nx y) ((q3 ^^^ (q4 * (31 : Int32))) ^^^ (q5 * (1009 : Int32))) (h_new y 50 (fun _ => 0) (fun _ => 0) 0 1)).bind fun q7 => if h_rm q7 4 = true then (if h_K (h_new q7 54 (fun _ => 0) (fun _ => 0) 0 4) (h_nx q7) = 54 then ((f_l_J4_init_da8c8 (h_nx q7) (h_new q7 54 (fun _ => 0) (fun _ => 0) 0 4)).bind fun q10 => (f_l_L_drawn (h_nx y) (h_nx q7) (1 : Int32) (4 : Int32) q10).bind fun q11 => if h_K q11.2 (h_nx q7) = 54 then ((f_l_J4_toString_0e30d (h_nx q7) q11.2).bind fun q13 => (f_l_L_taught q13.1 x q13.2).bind fun q14 => if q14.1 = 0 then ((f_X12_words q14.2.1).bind fun q16 => f_l_L_law_94 L xs (f_l_L_law_10 L xs n) g_fuel l2 (h_nx y) q11.1 q16 (0 : Int32) q14.2.1 q14.2.2) else (some (((0 : Int32), q14.2.1, q14.2.2)))) else none) else none) else none) else none) else none)
def f_l_L_law (L : Nat) (xs : Nat → Int32) (x : CS) (y : MS) : Option (Int32 × CS × MS) :=
  f_l_L_law_10 L xs g_fuel (0 : Int32) x y
set_option maxRecDepth 100000 in
set_option maxHeartbeats 4000000 in
theorem w_l_L_law_1192 {p : Program} {l : Launch} {e : Env} {s : State} {m : MethodId} {args : Array Value} {below : List Frame} {meth : Method} {c : Code} {Q : State → Prop} {G : GL} {o : Nat → Int32} {y0 : MS} {q : Int32 × CS × MS} {k10 : Int32 → CS → MS → Option (Int32 × CS × MS)} {k94 : Int32 → Nat → Nat → Int32 → Int32 → CS → MS → Option (Int32 × CS × MS)} (hfl : l.stackTraces = false) (hq1 : q.1 = 1) (KR : ∀ (x : CS) (y : MS) (o : Nat → Int32) (pc : Nat) (H : Heap) (locs : List Loc) (ls : Array Slot), h_W G y0 (x, y, o) s.heap H locs → decode cL_law pc = .ok (.ireturn, 1) → W p l e (h_lv 200 y0) s m args below meth c H locs (h_nx y - h_nx y0) (h_sl y - h_sl y0) Q (F0 m pc ls [.int 1])) (C0 : g_X G (List.range 120) p s m args meth c cL_law 22 RL ret) (kt10 : ∀ (l2 : Int32) (x : CS) (y : MS) (H : Heap) (locs : List Loc) (ls : Array Slot), k10 l2 x y = some q → h_W G y0 (x, y, o) s.heap H locs → lv_has ls 22 [(0, .ref (g_st G 5)), (1, .ref (g_ad G (0))), (2, .int (l2))] → W p l e (h_lv 200 y0) s m args below meth c H locs (h_nx y - h_nx y0) (h_sl y - h_sl y0) Q (F0 m 10 ls [])) (kt94 : ∀ (l2 : Int32) (l3 : Nat) (l5 : Nat) (l6 : Int32) (l7 : Int32) (x : CS) (y : MS) (H : Heap) (locs : List Loc) (ls : Array Slot), k94 l2 l3 l5 l6 l7 x y = some q → h_W G y0 (x, y, o) s.heap H locs → lv_has ls 22 [(0, .ref (g_st G 5)), (1, .ref (g_ad G (0))), (2, .int (l2)), (3, g_rf G (l3)), (5, g_rf G (l5)), (6, .int (l6)), (7, .int (l7))] → W p l e (h_lv 200 y0) s m args below meth c H locs (h_nx y - h_nx y0) (h_sl y - h_sl y0) Q (F0 m 94 ls [])) : ∀ (n : Nat) (l2 : Int32) (l3 : Nat) (l5 : Nat) (l6 : Int32) (l7 : Int32) (l20 : Int32) (x : CS) (y : MS) (H : Heap) (locs : List Loc) (ls : Array Slot), f_l_L_law_1192 (g_L G) (g_xs G) k10 k94 n l2 l3 l5 l6 l7 l20 x y = some q → h_W G y0 (x, y, o) s.heap H locs → lv_has ls 22 [(0, .ref (g_st G 5)), (1, .ref (g_ad G (0))), (2, .int (l2)), (3, g_rf G (l3)), (5, g_rf G (l5)), (6, .int (l6)), (7, .int (l7)), (20, .int (l20))] → W p l e (h_lv 200 y0) s m args below meth c H locs (h_nx y - h_nx y0) (h_sl y - h_sl y0) Q (F0 m 1192 ls []) := by
  intro n
  induction n with
  | zero =>
    intro l2 l3 l5 l6 l7 l20 x y H locs ls h hW hl
    exact absurd h (by simp [f_l_L_law_1192])
  | succ n ih =>
    intro l2 l3 l5 l6 l7 l20 x y H locs ls h hW hl
    unfold f_l_L_law_1192 at h
    refine lv_iload C0.hx C0.hb dL_law_1192 (lv_at hl 7 rfl) ?_
    refine lv_iload C0.hx C0.hb dL_law_1194 (lv_at hl 5 rfl) ?_
    refine lv_icmp_ge (tgt := 1230) C0.hx C0.hb dL_law_1196 (by decide) (fun hc146 => ?_) (fun hc146 => ?_)
    · replace h := (if_pos hc146).symm.trans h
      refine lv_iinc (v := l7 + (1 : Int32)) (lv' := [(7, .int (l7 + (1 : Int32))), (0, .ref (g_st G 5)), (1, .ref (g_ad G (0))), (2, .int (l2)), (3, g_rf G (l3)), (5, g_rf G (l5)), (6, .int (l6)), (20, .int (l20))]) C0.hx C0.hb dL_law_1230 hl (k := 6) rfl rfl (by decide) rfl (fun ls hl => ?_)
      refine lv_goto (tgt := 94) C0.hx C0.hb dL_law_1233 (by decide) ?_
      have hz := kt94 _ _ _ _ _ _ _ _ _ _ h hW (lv_sub hl [1, 2, 3, 4, 5, 6, 0] rfl)
      exact hz
    · replace h := (if_neg hc146).symm.trans h
      refine lv_aload_n C0.hx C0.hb dL_law_1199 rfl (lv_at hl 1 rfl) ?_
      refine lv_iload C0.hx C0.hb dL_law_1200 (lv_at hl 7 rfl) ?_
      obtain ⟨q147, hq147, h⟩ := Option.bind_eq_some_iff.mp h
      refine h_kcalli hW (h_krunV (Sx := (x, y, o)) (As := [.int (l20)]) (rest := []) C0 hW (c_X12_isNeedless hq147) rfl ⟨tc_X12_isNeedless, tn_X12, md_X12_isNeedless, by decide⟩ (by omega) tm_L_230 ti_X12_isNeedless ts_X12_isNeedless rfl hl.1 rfl (Nat.le_of_ble_eq_true rfl) dL_law_1202) (fun H locs hW => ?_)
      refine lv_if_eq (tgt := 1210) C0.hx C0.hb dL_law_1205 (by decide) (fun hc148 => ?_) (fun hc148 => ?_)
      · replace h := (if_pos hc148).symm.trans h
        refine h_aload C0.hx C0.hb dL_law_1210 (lv_at hl 4 rfl) ?_
        obtain ⟨hk149, h⟩ := g_if h
        refine hf_X16_3 C0 hW hk149 tf_L_48 dL_law_1212 ?_
        refine lv_iload C0.hx C0.hb dL_law_1215 (lv_at hl 7 rfl) ?_
        refine lv_aload_n C0.hx C0.hb dL_law_1217 rfl (lv_at hl 1 rfl) ?_
        refine lv_iload C0.hx C0.hb dL_law_1218 (lv_at hl 7 rfl) ?_
        obtain ⟨q150, hq150, h⟩ := Option.bind_eq_some_iff.mp h
        refine h_kcalli hW (h_krunV (Sx := (x, y, o)) (As := [.int (l20)]) (rest := [.int (l20), g_rf G (h_R y l5 3)]) C0 hW (c_X12_isPruned hq150) rfl ⟨tc_X12_isPruned, tn_X12, md_X12_isPruned, by decide⟩ (by omega) tm_L_227 ti_X12_isPruned ts_X12_isPruned rfl hl.1 rfl (by simp [g_catQ, h_ki, h_kr, h_kn, h_kl, h_kd]) dL_law_1220) (fun H locs hW => ?_)
        obtain ⟨hk151, h⟩ := g_if h
        obtain ⟨hn152, h⟩ := g_if h
        refine hs_62 C0 hW hk151 hn152 dL_law_1223 (fun H locs hW => ?_)
        refine h_fwi hW ?_
        refine lv_iinc (v := l20 + (1 : Int32)) (lv' := [(20, .int (l20 + (1 : Int32))), (0, .ref (g_st G 5)), (1, .ref (g_ad G (0))), (2, .int (l2)), (3, g_rf G (l3)), (5, g_rf G (l5)), (6, .int (l6)), (7, .int (l7))]) C0.hx C0.hb dL_law_1224 hl (k := 7) rfl rfl (by decide) rfl (fun ls hl => ?_)
        refine lv_goto (tgt := 1192) C0.hx C0.hb dL_law_1227 (by decide) ?_
        have hz := ih _ _ _ _ _ _ _ _ _ _ _ h hW (lv_sub hl [1, 2, 3, 4, 5, 6, 7, 0] rfl)
        exact hz
      · replace h := (if_neg hc148).symm.trans h
        refine lv_iconst (v := (0 : Int32)) C0.hx C0.hb dL_law_1208 (by decide) ?_
        obtain rfl := Option.some.inj h
        exact h_lret hq1 (KR _ _ _ _ _ _ _ hW dL_law_1209)
set_option maxRecDepth 100000 in
set_option maxHeartbeats 4000000 in
theorem w_l_L_law_1124 {p : Program} {l : Launch} {e : Env} {s : State} {m : MethodId} {args : Array Value} {below : List Frame} {meth : Method} {c : Code} {Q : State → Prop} {G : GL} {o : Nat → Int32} {y0 : MS} {q : Int32 × CS × MS} {k10 : Int32 → CS → MS → Option (Int32 × CS × MS)} {k94 : Int32 → Nat → Nat → Int32 → Int32 → CS → MS → Option (Int32 × CS × MS)} {k1066 : Int32 → Nat → Nat → Int32 → Int32 → Int32 → Int32 → Int32 → Int32 → Int32 → Int32 → CS → MS → Option (Int32 × CS × MS)} (hfl : l.stackTraces = false) (hq1 : q.1 = 1) (KR : ∀ (x : CS) (y : MS) (o : Nat → Int32) (pc : Nat) (H : Heap) (locs : List Loc) (ls : Array Slot), h_W G y0 (x, y, o) s.heap H locs → decode cL_law pc = .ok (.ireturn, 1) → W p l e (h_lv 200 y0) s m args below meth c H locs (h_nx y - h_nx y0) (h_sl y - h_sl y0) Q (F0 m pc ls [.int 1])) (C0 : g_X G (List.range 120) p s m args meth c cL_law 22 RL ret) (kt10 : ∀ (l2 : Int32) (x : CS) (y : MS) (H : Heap) (locs : List Loc) (ls : Array Slot), k10 l2 x y = some q → h_W G y0 (x, y, o) s.heap H locs → lv_has ls 22 [(0, .ref (g_st G 5)), (1, .ref (g_ad G (0))), (2, .int (l2))] → W p l e (h_lv 200 y0) s m args below meth c H locs (h_nx y - h_nx y0) (h_sl y - h_sl y0) Q (F0 m 10 ls [])) (kt94 : ∀ (l2 : Int32) (l3 : Nat) (l5 : Nat) (l6 : Int32) (l7 : Int32) (x : CS) (y : MS) (H : Heap) (locs : List Loc) (ls : Array Slot), k94 l2 l3 l5 l6 l7 x y = some q → h_W G y0 (x, y, o) s.heap H locs → lv_has ls 22 [(0, .ref (g_st G 5)), (1, .ref (g_ad G (0))), (2, .int (l2)), (3, g_rf G (l3)), (5, g_rf G (l5)), (6, .int (l6)), (7, .int (l7))] → W p l e (h_lv 200 y0) s m args below meth c H locs (h_nx y - h_nx y0) (h_sl y - h_sl y0) Q (F0 m 94 ls [])) (kt1066 : ∀ (l2 : Int32) (l3 : Nat) (l5 : Nat) (l6 : Int32) (l7 : Int32) (l14 : Int32) (l15 : Int32) (l16 : Int32) (l17 : Int32) (l18 : Int32) (l19 : Int32) (x : CS) (y : MS) (H : Heap) (locs : List Loc) (ls : Array Slot), k1066 l2 l3 l5 l6 l7 l14 l15 l16 l17 l18 l19 x y = some q → h_W G y0 (x, y, o) s.heap H locs → lv_has ls 22 [(0, .ref (g_st G 5)), (1, .ref (g_ad G (0))), (2, .int (l2)), (3, g_rf G (l3)), (5, g_rf G (l5)), (6, .int (l6)), (7, .int (l7)), (14, .int (l14)), (15, .int (l15)), (16, .int (l16)), (17, .int (l17)), (18, .int (l18)), (19, .int (l19))] → W p l e (h_lv 200 y0) s m args below meth c H locs (h_nx y - h_nx y0) (h_sl y - h_sl y0) Q (F0 m 1066 ls [])) : ∀  (l2 : Int32) (l3 : Nat) (l5 : Nat) (l6 : Int32) (l7 : Int32) (l14 : Int32) (l15 : Int32) (l16 : Int32) (l17 : Int32) (l18 : Int32) (l19 : Int32) (x : CS) (y : MS) (H : Heap) (locs : List Loc) (ls : Array Slot), f_l_L_law_1124 (g_L G) (g_xs G) k10 k94 k1066 l2 l3 l5 l6 l7 l14 l15 l16 l17 l18 l19 x y = some q → h_W G y0 (x, y, o) s.heap H locs → lv_has ls 22 [(0, .ref (g_st G 5)), (1, .ref (g_ad G (0))), (2, .int (l2)), (3, g_rf G (l3)), (5, g_rf G (l5)), (6, .int (l6)), (7, .int (l7)), (14, .int (l14)), (15, .int (l15)), (16, .int (l16)), (17, .int (l17)), (18, .int (l18)), (19, .int (l19))] → W p l e (h_lv 200 y0) s m args below meth c H locs (h_nx y - h_nx y0) (h_sl y - h_sl y0) Q (F0 m 1124 ls []) := by
  intro l2 l3 l5 l6 l7 l14 l15 l16 l17 l18 l19 x y H locs ls h hW hl
  unfold f_l_L_law_1124 at h
  refine lv_iload C0.hx C0.hb dL_law_1124 (lv_at hl 11 rfl) ?_
  refine lv_aload_n C0.hx C0.hb dL_law_1126 rfl (lv_at hl 1 rfl) ?_
  obtain ⟨q171, hq171, h⟩ := Option.bind_eq_some_iff.mp h
  refine h_calli hW (h_runSW (As := [.ref (g_ad G (0))]) (rest := [.int (l18)]) C0 hW (c_l_L_meant hfl hq171) tc_L_meant tn_L md_L_meant (by decide) (by omega) tm_L_183 tz_L_meant rfl hl.1 rfl (Nat.le_of_ble_eq_true rfl) dL_law_1127) (fun H locs hW => ?_)
  refine lv_iload C0.hx C0.hb dL_law_1130 (lv_at hl 7 rfl) ?_
  refine lv_icmp_ne (tgt := 1139) C0.hx C0.hb dL_law_1132 (by decide) (fun hc172 => ?_) (fun hc172 => ?_)
  · replace h := (if_neg hc172).symm.trans h
    refine lv_iconst (v := (0 : Int32)) C0.hx C0.hb dL_law_1139 (by decide) ?_
    refine lv_ior C0.hx C0.hb dL_law_1140 ?_
    refine lv_istore (lv' := [(18, .int (l18 ||| (0 : Int32))), (0, .ref (g_st G 5)), (1, .ref (g_ad G (0))), (2, .int (l2)), (3, g_rf G (l3)), (5, g_rf G (l5)), (6, .int (l6)), (7, .int (l7)), (14, .int (l14)), (15, .int (l15)), (16, .int (l16)), (17, .int (l17)), (19, .int (l19))]) C0.hx C0.hb dL_law_1141 hl (by decide) rfl (fun ls hl => ?_)
    refine lv_iinc (v := l19 + (1 : Int32)) (lv' := [(19, .int (l19 + (1 : Int32))), (18, .int (l18 ||| (0 : Int32))), (0, .ref (g_st G 5)), (1, .ref (g_ad G (0))), (2, .int (l2)), (3, g_rf G (l3)), (5, g_rf G (l5)), (6, .int (l6)), (7, .int (l7)), (14, .int (l14)), (15, .int (l15)), (16, .int (l16)), (17, .int (l17))]) C0.hx C0.hb dL_law_1143 hl (k := 12) rfl rfl (by decide) rfl (fun ls hl => ?_)
    refine lv_goto (tgt := 1066) C0.hx C0.hb dL_law_1146 (by decide) ?_
    have hz := kt1066 _ _ _ _ _ _ _ _ _ _ _ _ _ _ _ _ h hW (lv_sub hl [2, 3, 4, 5, 6, 7, 8, 9, 10, 11, 12, 1, 0] rfl)
    exact hz
  · replace h := (if_pos hc172).symm.trans h
    refine lv_iconst (v := (1 : Int32)) C0.hx C0.hb dL_law_1135 (by decide) ?_
    refine lv_goto (tgt := 1140) C0.hx C0.hb dL_law_1136 (by decide) ?_
    refine lv_ior C0.hx C0.hb dL_law_1140 ?_
    refine lv_istore (lv' := [(18, .int (l18 ||| (1 : Int32))), (0, .ref (g_st G 5)), (1, .ref (g_ad G (0))), (2, .int (l2)), (3, g_rf G (l3)), (5, g_rf G (l5)), (6, .int (l6)), (7, .int (l7)), (14, .int (l14)), (15, .int (l15)), (16, .int (l16)), (17, .int (l17)), (19, .int (l19))]) C0.hx C0.hb dL_law_1141 hl (by decide) rfl (fun ls hl => ?_)
    refine lv_iinc (v := l19 + (1 : Int32)) (lv' := [(19, .int (l19 + (1 : Int32))), (18, .int (l18 ||| (1 : Int32))), (0, .ref (g_st G 5)), (1, .ref (g_ad G (0))), (2, .int (l2)), (3, g_rf G (l3)), (5, g_rf G (l5)), (6, .int (l6)), (7, .int (l7)), (14, .int (l14)), (15, .int (l15)), (16, .int (l16)), (17, .int (l17))]) C0.hx C0.hb dL_law_1143 hl (k := 12) rfl rfl (by decide) rfl (fun ls hl => ?_)
    refine lv_goto (tgt := 1066) C0.hx C0.hb dL_law_1146 (by decide) ?_
    have hz := kt1066 _ _ _ _ _ _ _ _ _ _ _ _ _ _ _ _ h hW (lv_sub hl [2, 3, 4, 5, 6, 7, 8, 9, 10, 11, 12, 1, 0] rfl)
    exact hz
set_option maxRecDepth 100000 in
set_option maxHeartbeats 4000000 in
theorem w_l_L_law_1119 {p : Program} {l : Launch} {e : Env} {s : State} {m : MethodId} {args : Array Value} {below : List Frame} {meth : Method} {c : Code} {Q : State → Prop} {G : GL} {o : Nat → Int32} {y0 : MS} {q : Int32 × CS × MS} {k10 : Int32 → CS → MS → Option (Int32 × CS × MS)} {k94 : Int32 → Nat → Nat → Int32 → Int32 → CS → MS → Option (Int32 × CS × MS)} {k1066 : Int32 → Nat → Nat → Int32 → Int32 → Int32 → Int32 → Int32 → Int32 → Int32 → Int32 → CS → MS → Option (Int32 × CS × MS)} (hfl : l.stackTraces = false) (hq1 : q.1 = 1) (KR : ∀ (x : CS) (y : MS) (o : Nat → Int32) (pc : Nat) (H : Heap) (locs : List Loc) (ls : Array Slot), h_W G y0 (x, y, o) s.heap H locs → decode cL_law pc = .ok (.ireturn, 1) → W p l e (h_lv 200 y0) s m args below meth c H locs (h_nx y - h_nx y0) (h_sl y - h_sl y0) Q (F0 m pc ls [.int 1])) (C0 : g_X G (List.range 120) p s m args meth c cL_law 22 RL ret) (kt10 : ∀ (l2 : Int32) (x : CS) (y : MS) (H : Heap) (locs : List Loc) (ls : Array Slot), k10 l2 x y = some q → h_W G y0 (x, y, o) s.heap H locs → lv_has ls 22 [(0, .ref (g_st G 5)), (1, .ref (g_ad G (0))), (2, .int (l2))] → W p l e (h_lv 200 y0) s m args below meth c H locs (h_nx y - h_nx y0) (h_sl y - h_sl y0) Q (F0 m 10 ls [])) (kt94 : ∀ (l2 : Int32) (l3 : Nat) (l5 : Nat) (l6 : Int32) (l7 : Int32) (x : CS) (y : MS) (H : Heap) (locs : List Loc) (ls : Array Slot), k94 l2 l3 l5 l6 l7 x y = some q → h_W G y0 (x, y, o) s.heap H locs → lv_has ls 22 [(0, .ref (g_st G 5)), (1, .ref (g_ad G (0))), (2, .int (l2)), (3, g_rf G (l3)), (5, g_rf G (l5)), (6, .int (l6)), (7, .int (l7))] → W p l e (h_lv 200 y0) s m args below meth c H locs (h_nx y - h_nx y0) (h_sl y - h_sl y0) Q (F0 m 94 ls [])) (kt1066 : ∀ (l2 : Int32) (l3 : Nat) (l5 : Nat) (l6 : Int32) (l7 : Int32) (l14 : Int32) (l15 : Int32) (l16 : Int32) (l17 : Int32) (l18 : Int32) (l19 : Int32) (x : CS) (y : MS) (H : Heap) (locs : List Loc) (ls : Array Slot), k1066 l2 l3 l5 l6 l7 l14 l15 l16 l17 l18 l19 x y = some q → h_W G y0 (x, y, o) s.heap H locs → lv_has ls 22 [(0, .ref (g_st G 5)), (1, .ref (g_ad G (0))), (2, .int (l2)), (3, g_rf G (l3)), (5, g_rf G (l5)), (6, .int (l6)), (7, .int (l7)), (14, .int (l14)), (15, .int (l15)), (16, .int (l16)), (17, .int (l17)), (18, .int (l18)), (19, .int (l19))] → W p l e (h_lv 200 y0) s m args below meth c H locs (h_nx y - h_nx y0) (h_sl y - h_sl y0) Q (F0 m 1066 ls [])) : ∀  (l2 : Int32) (l3 : Nat) (l5 : Nat) (l6 : Int32) (l7 : Int32) (l14 : Int32) (l15 : Int32) (l16 : Int32) (l17 : Int32) (l18 : Int32) (l19 : Int32) (s0 : Int32) (s1 : Int32) (x : CS) (y : MS) (H : Heap) (locs : List Loc) (ls : Array Slot), f_l_L_law_1119 (g_L G) (g_xs G) k10 k94 k1066 l2 l3 l5 l6 l7 l14 l15 l16 l17 l18 l19 s0 s1 x y = some q → h_W G y0 (x, y, o) s.heap H locs → lv_has ls 22 [(0, .ref (g_st G 5)), (1, .ref (g_ad G (0))), (2, .int (l2)), (3, g_rf G (l3)), (5, g_rf G (l5)), (6, .int (l6)), (7, .int (l7)), (14, .int (l14)), (15, .int (l15)), (16, .int (l16)), (17, .int (l17)), (18, .int (l18)), (19, .int (l19))] → W p l e (h_lv 200 y0) s m args below meth c H locs (h_nx y - h_nx y0) (h_sl y - h_sl y0) Q (F0 m 1119 ls [.int (s0), .int (s1)]) := by
  intro l2 l3 l5 l6 l7 l14 l15 l16 l17 l18 l19 s0 s1 x y H locs ls h hW hl
  unfold f_l_L_law_1119 at h
  refine lv_icmp_eq (tgt := 1124) C0.hx C0.hb dL_law_1119 (by decide) (fun hc179 => ?_) (fun hc179 => ?_)
  · replace h := (if_pos hc179).symm.trans h
    have hz := w_l_L_law_1124 (l := l) (e := e) (below := below) hfl hq1 KR C0 kt10 kt94 kt1066 _ _ _ _ _ _ _ _ _ _ _ _ _ _ _ _ h hW (lv_sub hl [0, 1, 2, 3, 4, 5, 6, 7, 8, 9, 10, 11, 12] rfl)
    exact hz
  · replace h := (if_neg hc179).symm.trans h
    refine lv_iconst (v := (0 : Int32)) C0.hx C0.hb dL_law_1122 (by decide) ?_
    obtain rfl := Option.some.inj h
    exact h_lret hq1 (KR _ _ _ _ _ _ _ hW dL_law_1123)
set_option maxRecDepth 100000 in
set_option maxHeartbeats 4000000 in
theorem w_l_L_law_1107 {p : Program} {l : Launch} {e : Env} {s : State} {m : MethodId} {args : Array Value} {below : List Frame} {meth : Method} {c : Code} {Q : State → Prop} {G : GL} {o : Nat → Int32} {y0 : MS} {q : Int32 × CS × MS} {k10 : Int32 → CS → MS → Option (Int32 × CS × MS)} {k94 : Int32 → Nat → Nat → Int32 → Int32 → CS → MS → Option (Int32 × CS × MS)} {k1066 : Int32 → Nat → Nat → Int32 → Int32 → Int32 → Int32 → Int32 → Int32 → Int32 → Int32 → CS → MS → Option (Int32 × CS × MS)} (hfl : l.stackTraces = false) (hq1 : q.1 = 1) (KR : ∀ (x : CS) (y : MS) (o : Nat → Int32) (pc : Nat) (H : Heap) (locs : List Loc) (ls : Array Slot), h_W G y0 (x, y, o) s.heap H locs → decode cL_law pc = .ok (.ireturn, 1) → W p l e (h_lv 200 y0) s m args below meth c H locs (h_nx y - h_nx y0) (h_sl y - h_sl y0) Q (F0 m pc ls [.int 1])) (C0 : g_X G (List.range 120) p s m args meth c cL_law 22 RL ret) (kt10 : ∀ (l2 : Int32) (x : CS) (y : MS) (H : Heap) (locs : List Loc) (ls : Array Slot), k10 l2 x y = some q → h_W G y0 (x, y, o) s.heap H locs → lv_has ls 22 [(0, .ref (g_st G 5)), (1, .ref (g_ad G (0))), (2, .int (l2))] → W p l e (h_lv 200 y0) s m args below meth c H locs (h_nx y - h_nx y0) (h_sl y - h_sl y0) Q (F0 m 10 ls [])) (kt94 : ∀ (l2 : Int32) (l3 : Nat) (l5 : Nat) (l6 : Int32) (l7 : Int32) (x : CS) (y : MS) (H : Heap) (locs : List Loc) (ls : Array Slot), k94 l2 l3 l5 l6 l7 x y = some q → h_W G y0 (x, y, o) s.heap H locs → lv_has ls 22 [(0, .ref (g_st G 5)), (1, .ref (g_ad G (0))), (2, .int (l2)), (3, g_rf G (l3)), (5, g_rf G (l5)), (6, .int (l6)), (7, .int (l7))] → W p l e (h_lv 200 y0) s m args below meth c H locs (h_nx y - h_nx y0) (h_sl y - h_sl y0) Q (F0 m 94 ls [])) (kt1066 : ∀ (l2 : Int32) (l3 : Nat) (l5 : Nat) (l6 : Int32) (l7 : Int32) (l14 : Int32) (l15 : Int32) (l16 : Int32) (l17 : Int32) (l18 : Int32) (l19 : Int32) (x : CS) (y : MS) (H : Heap) (locs : List Loc) (ls : Array Slot), k1066 l2 l3 l5 l6 l7 l14 l15 l16 l17 l18 l19 x y = some q → h_W G y0 (x, y, o) s.heap H locs → lv_has ls 22 [(0, .ref (g_st G 5)), (1, .ref (g_ad G (0))), (2, .int (l2)), (3, g_rf G (l3)), (5, g_rf G (l5)), (6, .int (l6)), (7, .int (l7)), (14, .int (l14)), (15, .int (l15)), (16, .int (l16)), (17, .int (l17)), (18, .int (l18)), (19, .int (l19))] → W p l e (h_lv 200 y0) s m args below meth c H locs (h_nx y - h_nx y0) (h_sl y - h_sl y0) Q (F0 m 1066 ls [])) : ∀  (l2 : Int32) (l3 : Nat) (l5 : Nat) (l6 : Int32) (l7 : Int32) (l14 : Int32) (l15 : Int32) (l16 : Int32) (l17 : Int32) (l18 : Int32) (l19 : Int32) (s0 : Int32) (x : CS) (y : MS) (H : Heap) (locs : List Loc) (ls : Array Slot), f_l_L_law_1107 (g_L G) (g_xs G) k10 k94 k1066 l2 l3 l5 l6 l7 l14 l15 l16 l17 l18 l19 s0 x y = some q → h_W G y0 (x, y, o) s.heap H locs → lv_has ls 22 [(0, .ref (g_st G 5)), (1, .ref (g_ad G (0))), (2, .int (l2)), (3, g_rf G (l3)), (5, g_rf G (l5)), (6, .int (l6)), (7, .int (l7)), (14, .int (l14)), (15, .int (l15)), (16, .int (l16)), (17, .int (l17)), (18, .int (l18)), (19, .int (l19))] → W p l e (h_lv 200 y0) s m args below meth c H locs (h_nx y - h_nx y0) (h_sl y - h_sl y0) Q (F0 m 1107 ls [.int (s0)]) := by
  intro l2 l3 l5 l6 l7 l14 l15 l16 l17 l18 l19 s0 x y H locs ls h hW hl
  unfold f_l_L_law_1107 at h
  refine lv_iload C0.hx C0.hb dL_law_1107 (lv_at hl 10 rfl) ?_
  refine lv_iload C0.hx C0.hb dL_law_1109 (lv_at hl 12 rfl) ?_
  refine lv_icmp_ne (tgt := 1118) C0.hx C0.hb dL_law_1111 (by decide) (fun hc173 => ?_) (fun hc173 => ?_)
  · replace h := (if_neg hc173).symm.trans h
    refine lv_iconst (v := (0 : Int32)) C0.hx C0.hb dL_law_1118 (by decide) ?_
    have hz := w_l_L_law_1119 (l := l) (e := e) (below := below) hfl hq1 KR C0 kt10 kt94 kt1066 _ _ _ _ _ _ _ _ _ _ _ _ _ _ _ _ _ _ h hW (lv_sub hl [0, 1, 2, 3, 4, 5, 6, 7, 8, 9, 10, 11, 12] rfl)
    exact hz
  · replace h := (if_pos hc173).symm.trans h
    refine lv_iconst (v := (1 : Int32)) C0.hx C0.hb dL_law_1114 (by decide) ?_
    refine lv_goto (tgt := 1119) C0.hx C0.hb dL_law_1115 (by decide) ?_
    have hz := w_l_L_law_1119 (l := l) (e := e) (below := below) hfl hq1 KR C0 kt10 kt94 kt1066 _ _ _ _ _ _ _ _ _ _ _ _ _ _ _ _ _ _ h hW (lv_sub hl [0, 1, 2, 3, 4, 5, 6, 7, 8, 9, 10, 11, 12] rfl)
    exact hz
set_option maxRecDepth 100000 in
set_option maxHeartbeats 4000000 in
theorem w_l_L_law_1066 {p : Program} {l : Launch} {e : Env} {s : State} {m : MethodId} {args : Array Value} {below : List Frame} {meth : Method} {c : Code} {Q : State → Prop} {G : GL} {o : Nat → Int32} {y0 : MS} {q : Int32 × CS × MS} {k10 : Int32 → CS → MS → Option (Int32 × CS × MS)} {k94 : Int32 → Nat → Nat → Int32 → Int32 → CS → MS → Option (Int32 × CS × MS)} (hfl : l.stackTraces = false) (hq1 : q.1 = 1) (KR : ∀ (x : CS) (y : MS) (o : Nat → Int32) (pc : Nat) (H : Heap) (locs : List Loc) (ls : Array Slot), h_W G y0 (x, y, o) s.heap H locs → decode cL_law pc = .ok (.ireturn, 1) → W p l e (h_lv 200 y0) s m args below meth c H locs (h_nx y - h_nx y0) (h_sl y - h_sl y0) Q (F0 m pc ls [.int 1])) (C0 : g_X G (List.range 120) p s m args meth c cL_law 22 RL ret) (kt10 : ∀ (l2 : Int32) (x : CS) (y : MS) (H : Heap) (locs : List Loc) (ls : Array Slot), k10 l2 x y = some q → h_W G y0 (x, y, o) s.heap H locs → lv_has ls 22 [(0, .ref (g_st G 5)), (1, .ref (g_ad G (0))), (2, .int (l2))] → W p l e (h_lv 200 y0) s m args below meth c H locs (h_nx y - h_nx y0) (h_sl y - h_sl y0) Q (F0 m 10 ls [])) (kt94 : ∀ (l2 : Int32) (l3 : Nat) (l5 : Nat) (l6 : Int32) (l7 : Int32) (x : CS) (y : MS) (H : Heap) (locs : List Loc) (ls : Array Slot), k94 l2 l3 l5 l6 l7 x y = some q → h_W G y0 (x, y, o) s.heap H locs → lv_has ls 22 [(0, .ref (g_st G 5)), (1, .ref (g_ad G (0))), (2, .int (l2)), (3, g_rf G (l3)), (5, g_rf G (l5)), (6, .int (l6)), (7, .int (l7))] → W p l e (h_lv 200 y0) s m args below meth c H locs (h_nx y - h_nx y0) (h_sl y - h_sl y0) Q (F0 m 94 ls [])) : ∀ (n : Nat) (l2 : Int32) (l3 : Nat) (l5 : Nat) (l6 : Int32) (l7 : Int32) (l14 : Int32) (l15 : Int32) (l16 : Int32) (l17 : Int32) (l18 : Int32) (l19 : Int32) (x : CS) (y : MS) (H : Heap) (locs : List Loc) (ls : Array Slot), f_l_L_law_1066 (g_L G) (g_xs G) k10 k94 n l2 l3 l5 l6 l7 l14 l15 l16 l17 l18 l19 x y = some q → h_W G y0 (x, y, o) s.heap H locs → lv_has ls 22 [(0, .ref (g_st G 5)), (1, .ref (g_ad G (0))), (2, .int (l2)), (3, g_rf G (l3)), (5, g_rf G (l5)), (6, .int (l6)), (7, .int (l7)), (14, .int (l14)), (15, .int (l15)), (16, .int (l16)), (17, .int (l17)), (18, .int (l18)), (19, .int (l19))] → W p l e (h_lv 200 y0) s m args below meth c H locs (h_nx y - h_nx y0) (h_sl y - h_sl y0) Q (F0 m 1066 ls []) := by
  intro n
  induction n with
  | zero =>
    intro l2 l3 l5 l6 l7 l14 l15 l16 l17 l18 l19 x y H locs ls h hW hl
    exact absurd h (by simp [f_l_L_law_1066])
  | succ n ih =>
    intro l2 l3 l5 l6 l7 l14 l15 l16 l17 l18 l19 x y H locs ls h hW hl
    unfold f_l_L_law_1066 at h
    refine lv_iload C0.hx C0.hb dL_law_1066 (lv_at hl 12 rfl) ?_
    refine lv_iload C0.hx C0.hb dL_law_1068 (lv_at hl 8 rfl) ?_
    refine lv_icmp_gt (tgt := 1149) C0.hx C0.hb dL_law_1070 (by decide) (fun hc153 => ?_) (fun hc153 => ?_)
    · replace h := (if_pos hc153).symm.trans h
      refine lv_aload_n C0.hx C0.hb dL_law_1149 rfl (lv_at hl 1 rfl) ?_
      obtain ⟨q154, hq154, h⟩ := Option.bind_eq_some_iff.mp h
      refine h_kcalli hW (h_krunV (Sx := (x, y, o)) (As := []) (rest := []) C0 hW (c_X12_keptWords hq154) rfl ⟨tc_X12_keptWords, tn_X12, md_X12_keptWords, by decide⟩ (by omega) tm_L_189 ti_X12_keptWords ts_X12_keptWords rfl hl.1 rfl (Nat.le_of_ble_eq_true rfl) dL_law_1150) (fun H locs hW => ?_)
      refine lv_iload C0.hx C0.hb dL_law_1153 (lv_at hl 9 rfl) ?_
      refine lv_icmp_eq (tgt := 1160) C0.hx C0.hb dL_law_1155 (by decide) (fun hc155 => ?_) (fun hc155 => ?_)
      · replace h := (if_pos hc155).symm.trans h
        refine lv_goto (tgt := 1230) C0.hx C0.hb dL_law_1160 (by decide) ?_
        refine lv_iinc (v := l7 + (1 : Int32)) (lv' := [(7, .int (l7 + (1 : Int32))), (0, .ref (g_st G 5)), (1, .ref (g_ad G (0))), (2, .int (l2)), (3, g_rf G (l3)), (5, g_rf G (l5)), (6, .int (l6)), (14, .int (l14)), (15, .int (l15)), (16, .int (l16)), (17, .int (l17)), (18, .int (l18)), (19, .int (l19))]) C0.hx C0.hb dL_law_1230 hl (k := 6) rfl rfl (by decide) rfl (fun ls hl => ?_)
        refine lv_goto (tgt := 94) C0.hx C0.hb dL_law_1233 (by decide) ?_
        have hz := kt94 _ _ _ _ _ _ _ _ _ _ h hW (lv_sub hl [1, 2, 3, 4, 5, 6, 0] rfl)
        exact hz
      · replace h := (if_neg hc155).symm.trans h
        refine lv_iconst (v := (0 : Int32)) C0.hx C0.hb dL_law_1158 (by decide) ?_
        obtain rfl := Option.some.inj h
        exact h_lret hq1 (KR _ _ _ _ _ _ _ hW dL_law_1159)
    · replace h := (if_neg hc153).symm.trans h
      refine lv_aload_n C0.hx C0.hb dL_law_1073 rfl (lv_at hl 1 rfl) ?_
      refine lv_iconst (v := (1 : Int32)) C0.hx C0.hb dL_law_1074 (by decide) ?_
      obtain ⟨q156, hq156, h⟩ := Option.bind_eq_some_iff.mp h
      refine h_kcalli hW (h_krunV (Sx := (x, y, o)) (As := [.int ((1 : Int32))]) (rest := []) C0 hW (c_X12_passLessons hq156) rfl ⟨tc_X12_passLessons, tn_X12, md_X12_passLessons, by decide⟩ (by omega) tm_L_107 ti_X12_passLessons ts_X12_passLessons rfl hl.1 rfl (Nat.le_of_ble_eq_true rfl) dL_law_1075) (fun H locs hW => ?_)
      refine h_aload C0.hx C0.hb dL_law_1078 (lv_at hl 4 rfl) ?_
      obtain ⟨hk157, h⟩ := g_if h
      obtain ⟨q158, hq158, h⟩ := Option.bind_eq_some_iff.mp h
      refine h_calli hW (h_runV (As := []) (rest := [.int (q156.1)]) C0 hW (hW.rf (h_ne hk157 (by decide))) (h_recv C0 hW (h_ne hk157 (by decide)) (h_c53 hk157) rfl) (c_l_X16_pass hq158) cy_X16_pass (by omega) tm_L_258 ti_X16_pass ts_X16_pass rfl hl.1 rfl (Nat.le_of_ble_eq_true rfl) dL_law_1080) (fun H locs hW => ?_)
      refine lv_icmp_eq (tgt := 1088) C0.hx C0.hb dL_law_1083 (by decide) (fun hc159 => ?_) (fun hc159 => ?_)
      · replace h := (if_pos hc159).symm.trans h
        refine lv_iload C0.hx C0.hb dL_law_1088 (lv_at hl 11 rfl) ?_
        refine lv_if_ne (tgt := 1124) C0.hx C0.hb dL_law_1090 (by decide) (fun hc160 => ?_) (fun hc160 => ?_)
        · replace h := (if_neg hc160).symm.trans h
          have hz := w_l_L_law_1124 (l := l) (e := e) (below := below) hfl hq1 KR C0 kt10 kt94 ih _ _ _ _ _ _ _ _ _ _ _ _ _ _ _ _ h hW (lv_sub hl [0, 1, 2, 3, 4, 5, 6, 7, 8, 9, 10, 11, 12] rfl)
          exact hz
        · replace h := (if_pos hc160).symm.trans h
          refine lv_aload_n C0.hx C0.hb dL_law_1093 rfl (lv_at hl 1 rfl) ?_
          obtain ⟨q161, hq161, h⟩ := Option.bind_eq_some_iff.mp h
          refine h_calli hW (h_runSW (As := [.ref (g_ad G (0))]) (rest := []) C0 hW (c_l_L_meant hfl hq161) tc_L_meant tn_L md_L_meant (by decide) (by omega) tm_L_183 tz_L_meant rfl hl.1 rfl (Nat.le_of_ble_eq_true rfl) dL_law_1094) (fun H locs hW => ?_)
          refine lv_iload C0.hx C0.hb dL_law_1097 (lv_at hl 7 rfl) ?_
          refine lv_icmp_ne (tgt := 1106) C0.hx C0.hb dL_law_1099 (by decide) (fun hc162 => ?_) (fun hc162 => ?_)
          · replace h := (if_neg hc162).symm.trans h
            refine lv_iconst (v := (0 : Int32)) C0.hx C0.hb dL_law_1106 (by decide) ?_
            have hz := w_l_L_law_1107 (l := l) (e := e) (below := below) hfl hq1 KR C0 kt10 kt94 ih _ _ _ _ _ _ _ _ _ _ _ _ _ _ _ _ _ h hW (lv_sub hl [0, 1, 2, 3, 4, 5, 6, 7, 8, 9, 10, 11, 12] rfl)
            exact hz
          · replace h := (if_pos hc162).symm.trans h
            refine lv_iconst (v := (1 : Int32)) C0.hx C0.hb dL_law_1102 (by decide) ?_
            refine lv_goto (tgt := 1107) C0.hx C0.hb dL_law_1103 (by decide) ?_
            have hz := w_l_L_law_1107 (l := l) (e := e) (below := below) hfl hq1 KR C0 kt10 kt94 ih _ _ _ _ _ _ _ _ _ _ _ _ _ _ _ _ _ h hW (lv_sub hl [0, 1, 2, 3, 4, 5, 6, 7, 8, 9, 10, 11, 12] rfl)
            exact hz
      · replace h := (if_neg hc159).symm.trans h
        refine lv_iconst (v := (0 : Int32)) C0.hx C0.hb dL_law_1086 (by decide) ?_
        obtain rfl := Option.some.inj h
        exact h_lret hq1 (KR _ _ _ _ _ _ _ hW dL_law_1087)
set_option maxRecDepth 100000 in
set_option maxHeartbeats 4000000 in
theorem w_l_L_law_1036 {p : Program} {l : Launch} {e : Env} {s : State} {m : MethodId} {args : Array Value} {below : List Frame} {meth : Method} {c : Code} {Q : State → Prop} {G : GL} {o : Nat → Int32} {y0 : MS} {q : Int32 × CS × MS} {k10 : Int32 → CS → MS → Option (Int32 × CS × MS)} {k94 : Int32 → Nat → Nat → Int32 → Int32 → CS → MS → Option (Int32 × CS × MS)} (hfl : l.stackTraces = false) (hq1 : q.1 = 1) (KR : ∀ (x : CS) (y : MS) (o : Nat → Int32) (pc : Nat) (H : Heap) (locs : List Loc) (ls : Array Slot), h_W G y0 (x, y, o) s.heap H locs → decode cL_law pc = .ok (.ireturn, 1) → W p l e (h_lv 200 y0) s m args below meth c H locs (h_nx y - h_nx y0) (h_sl y - h_sl y0) Q (F0 m pc ls [.int 1])) (C0 : g_X G (List.range 120) p s m args meth c cL_law 22 RL ret) (kt10 : ∀ (l2 : Int32) (x : CS) (y : MS) (H : Heap) (locs : List Loc) (ls : Array Slot), k10 l2 x y = some q → h_W G y0 (x, y, o) s.heap H locs → lv_has ls 22 [(0, .ref (g_st G 5)), (1, .ref (g_ad G (0))), (2, .int (l2))] → W p l e (h_lv 200 y0) s m args below meth c H locs (h_nx y - h_nx y0) (h_sl y - h_sl y0) Q (F0 m 10 ls [])) (kt94 : ∀ (l2 : Int32) (l3 : Nat) (l5 : Nat) (l6 : Int32) (l7 : Int32) (x : CS) (y : MS) (H : Heap) (locs : List Loc) (ls : Array Slot), k94 l2 l3 l5 l6 l7 x y = some q → h_W G y0 (x, y, o) s.heap H locs → lv_has ls 22 [(0, .ref (g_st G 5)), (1, .ref (g_ad G (0))), (2, .int (l2)), (3, g_rf G (l3)), (5, g_rf G (l5)), (6, .int (l6)), (7, .int (l7))] → W p l e (h_lv 200 y0) s m args below meth c H locs (h_nx y - h_nx y0) (h_sl y - h_sl y0) Q (F0 m 94 ls [])) : ∀  (l2 : Int32) (l3 : Nat) (l5 : Nat) (l6 : Int32) (l7 : Int32) (l11 : Int32) (l14 : Int32) (l15 : Int32) (l16 : Int32) (l17 : Int32) (s0 : Int32) (s1 : Int32) (x : CS) (y : MS) (H : Heap) (locs : List Loc) (ls : Array Slot), f_l_L_law_1036 (g_L G) (g_xs G) k10 k94 l2 l3 l5 l6 l7 l11 l14 l15 l16 l17 s0 s1 x y = some q → h_W G y0 (x, y, o) s.heap H locs → lv_has ls 22 [(0, .ref (g_st G 5)), (1, .ref (g_ad G (0))), (2, .int (l2)), (3, g_rf G (l3)), (5, g_rf G (l5)), (6, .int (l6)), (7, .int (l7)), (11, .int (l11)), (14, .int (l14)), (15, .int (l15)), (16, .int (l16)), (17, .int (l17))] → W p l e (h_lv 200 y0) s m args below meth c H locs (h_nx y - h_nx y0) (h_sl y - h_sl y0) Q (F0 m 1036 ls [.int (s0), .int (s1)]) := by
  intro l2 l3 l5 l6 l7 l11 l14 l15 l16 l17 s0 s1 x y H locs ls h hW hl
  unfold f_l_L_law_1036 at h
  refine lv_icmp_eq (tgt := 1041) C0.hx C0.hb dL_law_1036 (by decide) (fun hc126 => ?_) (fun hc126 => ?_)
  · replace h := (if_pos hc126).symm.trans h
    refine h_aload_n C0.hx C0.hb dL_law_1041 rfl (lv_at hl 3 rfl) ?_
    refine lv_iconst (v := (2 : Int32)) C0.hx C0.hb dL_law_1042 (by decide) ?_
    obtain ⟨hk127, h⟩ := g_if h
    obtain ⟨q128, hq128, h⟩ := Option.bind_eq_some_iff.mp h
    refine h_calli hW (h_runV (As := [.int ((2 : Int32))]) (rest := []) C0 hW (hW.rf (h_ne hk127 (by decide))) (h_recv C0 hW (h_ne hk127 (by decide)) (h_c50 hk127) rfl) (c_l_X13_next hq128) cy_X13_next (by omega) tm_L_37 ti_X13_next ts_X13_next rfl hl.1 rfl (Nat.le_of_ble_eq_true rfl) dL_law_1043) (fun H locs hW => ?_)
    refine lv_if_ne (tgt := 1163) C0.hx C0.hb dL_law_1046 (by decide) (fun hc129 => ?_) (fun hc129 => ?_)
    · replace h := (if_neg hc129).symm.trans h
      refine lv_aload_n C0.hx C0.hb dL_law_1163 rfl (lv_at hl 1 rfl) ?_
      obtain ⟨q130, hq130, h⟩ := Option.bind_eq_some_iff.mp h
      refine h_kcalli hW (h_krunV (Sx := (x, y, o)) (As := []) (rest := []) C0 hW (c_X12_keptWords hq130) rfl ⟨tc_X12_keptWords, tn_X12, md_X12_keptWords, by decide⟩ (by omega) tm_L_189 ti_X12_keptWords ts_X12_keptWords rfl hl.1 rfl (Nat.le_of_ble_eq_true rfl) dL_law_1164) (fun H locs hW => ?_)
      refine lv_istore (lv' := [(18, .int (q130)), (0, .ref (g_st G 5)), (1, .ref (g_ad G (0))), (2, .int (l2)), (3, g_rf G (l3)), (5, g_rf G (l5)), (6, .int (l6)), (7, .int (l7)), (11, .int (l11)), (14, .int (l14)), (15, .int (l15)), (16, .int (l16)), (17, .int (l17))]) C0.hx C0.hb dL_law_1167 hl (by decide) rfl (fun ls hl => ?_)
      refine lv_aload_n C0.hx C0.hb dL_law_1169 rfl (lv_at hl 2 rfl) ?_
      obtain ⟨q131, hq131, h⟩ := Option.bind_eq_some_iff.mp h
      refine h_kcalli hW (h_krunV (Sx := (x, y, o)) (As := []) (rest := []) C0 hW (c_X12_pruneNeedless hq131) rfl ⟨tc_X12_pruneNeedless, tn_X12, md_X12_pruneNeedless, by decide⟩ (by omega) tm_L_139 ti_X12_pruneNeedless ts_X12_pruneNeedless rfl hl.1 rfl (Nat.le_of_ble_eq_true rfl) dL_law_1170) (fun H locs hW => ?_)
      refine lv_istore (lv' := [(19, .int (q131.1)), (18, .int (q130)), (0, .ref (g_st G 5)), (1, .ref (g_ad G (0))), (2, .int (l2)), (3, g_rf G (l3)), (5, g_rf G (l5)), (6, .int (l6)), (7, .int (l7)), (11, .int (l11)), (14, .int (l14)), (15, .int (l15)), (16, .int (l16)), (17, .int (l17))]) C0.hx C0.hb dL_law_1173 hl (by decide) rfl (fun ls hl => ?_)
      refine lv_aload_n C0.hx C0.hb dL_law_1175 rfl (lv_at hl 3 rfl) ?_
      obtain ⟨q132, hq132, h⟩ := Option.bind_eq_some_iff.mp h
      refine h_kcalli hW (h_krunV (Sx := (x, y, o)) (As := []) (rest := []) C0 hW (c_X12_keptWords hq132) rfl ⟨tc_X12_keptWords, tn_X12, md_X12_keptWords, by decide⟩ (by omega) tm_L_189 ti_X12_keptWords ts_X12_keptWords rfl hl.1 rfl (Nat.le_of_ble_eq_true rfl) dL_law_1176) (fun H locs hW => ?_)
      refine lv_iload C0.hx C0.hb dL_law_1179 (lv_at hl 1 rfl) ?_
      refine lv_iload C0.hx C0.hb dL_law_1181 (lv_at hl 0 rfl) ?_
      refine lv_isub C0.hx C0.hb dL_law_1183 ?_
      refine lv_icmp_eq (tgt := 1189) C0.hx C0.hb dL_law_1184 (by decide) (fun hc133 => ?_) (fun hc133 => ?_)
      · replace h := (if_pos hc133).symm.trans h
        refine lv_iconst (v := (0 : Int32)) C0.hx C0.hb dL_law_1189 (by decide) ?_
        refine lv_istore (lv' := [(20, .int ((0 : Int32))), (19, .int (q131.1)), (18, .int (q130)), (0, .ref (g_st G 5)), (1, .ref (g_ad G (0))), (2, .int (l2)), (3, g_rf G (l3)), (5, g_rf G (l5)), (6, .int (l6)), (7, .int (l7)), (11, .int (l11)), (14, .int (l14)), (15, .int (l15)), (16, .int (l16)), (17, .int (l17))]) C0.hx C0.hb dL_law_1190 hl (by decide) rfl (fun ls hl => ?_)
        have hz := w_l_L_law_1192 (l := l) (e := e) (below := below) hfl hq1 KR C0 kt10 kt94 g_fuel _ _ _ _ _ _ _ _ _ _ _ h hW (lv_sub hl [3, 4, 5, 6, 7, 8, 9, 0] rfl)
        exact hz
      · replace h := (if_neg hc133).symm.trans h
        refine lv_iconst (v := (0 : Int32)) C0.hx C0.hb dL_law_1187 (by decide) ?_
        obtain rfl := Option.some.inj h
        exact h_lret hq1 (KR _ _ _ _ _ _ _ hW dL_law_1188)
    · replace h := (if_pos hc129).symm.trans h
      refine lv_iload C0.hx C0.hb dL_law_1049 (lv_at hl 7 rfl) ?_
      refine lv_iload C0.hx C0.hb dL_law_1051 (lv_at hl 8 rfl) ?_
      refine lv_icmp_ne (tgt := 1060) C0.hx C0.hb dL_law_1053 (by decide) (fun hc134 => ?_) (fun hc134 => ?_)
      · replace h := (if_neg hc134).symm.trans h
        refine lv_iconst (v := (0 : Int32)) C0.hx C0.hb dL_law_1060 (by decide) ?_
        refine lv_istore (lv' := [(18, .int ((0 : Int32))), (0, .ref (g_st G 5)), (1, .ref (g_ad G (0))), (2, .int (l2)), (3, g_rf G (l3)), (5, g_rf G (l5)), (6, .int (l6)), (7, .int (l7)), (11, .int (l11)), (14, .int (l14)), (15, .int (l15)), (16, .int (l16)), (17, .int (l17))]) C0.hx C0.hb dL_law_1061 hl (by decide) rfl (fun ls hl => ?_)
        refine lv_iconst (v := (1 : Int32)) C0.hx C0.hb dL_law_1063 (by decide) ?_
        refine lv_istore (lv' := [(19, .int ((1 : Int32))), (18, .int ((0 : Int32))), (0, .ref (g_st G 5)), (1, .ref (g_ad G (0))), (2, .int (l2)), (3, g_rf G (l3)), (5, g_rf G (l5)), (6, .int (l6)), (7, .int (l7)), (11, .int (l11)), (14, .int (l14)), (15, .int (l15)), (16, .int (l16)), (17, .int (l17))]) C0.hx C0.hb dL_law_1064 hl (by decide) rfl (fun ls hl => ?_)
        have hz := w_l_L_law_1066 (l := l) (e := e) (below := below) hfl hq1 KR C0 kt10 kt94 g_fuel _ _ _ _ _ _ _ _ _ _ _ _ _ _ _ _ h hW (lv_sub hl [2, 3, 4, 5, 6, 7, 8, 10, 11, 12, 13, 1, 0] rfl)
        exact hz
      · replace h := (if_pos hc134).symm.trans h
        refine lv_iconst (v := (1 : Int32)) C0.hx C0.hb dL_law_1056 (by decide) ?_
        refine lv_goto (tgt := 1061) C0.hx C0.hb dL_law_1057 (by decide) ?_
        refine lv_istore (lv' := [(18, .int ((1 : Int32))), (0, .ref (g_st G 5)), (1, .ref (g_ad G (0))), (2, .int (l2)), (3, g_rf G (l3)), (5, g_rf G (l5)), (6, .int (l6)), (7, .int (l7)), (11, .int (l11)), (14, .int (l14)), (15, .int (l15)), (16, .int (l16)), (17, .int (l17))]) C0.hx C0.hb dL_law_1061 hl (by decide) rfl (fun ls hl => ?_)
        refine lv_iconst (v := (1 : Int32)) C0.hx C0.hb dL_law_1063 (by decide) ?_
        refine lv_istore (lv' := [(19, .int ((1 : Int32))), (18, .int ((1 : Int32))), (0, .ref (g_st G 5)), (1, .ref (g_ad G (0))), (2, .int (l2)), (3, g_rf G (l3)), (5, g_rf G (l5)), (6, .int (l6)), (7, .int (l7)), (11, .int (l11)), (14, .int (l14)), (15, .int (l15)), (16, .int (l16)), (17, .int (l17))]) C0.hx C0.hb dL_law_1064 hl (by decide) rfl (fun ls hl => ?_)
        have hz := w_l_L_law_1066 (l := l) (e := e) (below := below) hfl hq1 KR C0 kt10 kt94 g_fuel _ _ _ _ _ _ _ _ _ _ _ _ _ _ _ _ h hW (lv_sub hl [2, 3, 4, 5, 6, 7, 8, 10, 11, 12, 13, 1, 0] rfl)
        exact hz
  · replace h := (if_neg hc126).symm.trans h
    refine lv_iconst (v := (0 : Int32)) C0.hx C0.hb dL_law_1039 (by decide) ?_
    obtain rfl := Option.some.inj h
    exact h_lret hq1 (KR _ _ _ _ _ _ _ hW dL_law_1040)
set_option maxRecDepth 100000 in
set_option maxHeartbeats 4000000 in
theorem w_l_L_law_1024 {p : Program} {l : Launch} {e : Env} {s : State} {m : MethodId} {args : Array Value} {below : List Frame} {meth : Method} {c : Code} {Q : State → Prop} {G : GL} {o : Nat → Int32} {y0 : MS} {q : Int32 × CS × MS} {k10 : Int32 → CS → MS → Option (Int32 × CS × MS)} {k94 : Int32 → Nat → Nat → Int32 → Int32 → CS → MS → Option (Int32 × CS × MS)} (hfl : l.stackTraces = false) (hq1 : q.1 = 1) (KR : ∀ (x : CS) (y : MS) (o : Nat → Int32) (pc : Nat) (H : Heap) (locs : List Loc) (ls : Array Slot), h_W G y0 (x, y, o) s.heap H locs → decode cL_law pc = .ok (.ireturn, 1) → W p l e (h_lv 200 y0) s m args below meth c H locs (h_nx y - h_nx y0) (h_sl y - h_sl y0) Q (F0 m pc ls [.int 1])) (C0 : g_X G (List.range 120) p s m args meth c cL_law 22 RL ret) (kt10 : ∀ (l2 : Int32) (x : CS) (y : MS) (H : Heap) (locs : List Loc) (ls : Array Slot), k10 l2 x y = some q → h_W G y0 (x, y, o) s.heap H locs → lv_has ls 22 [(0, .ref (g_st G 5)), (1, .ref (g_ad G (0))), (2, .int (l2))] → W p l e (h_lv 200 y0) s m args below meth c H locs (h_nx y - h_nx y0) (h_sl y - h_sl y0) Q (F0 m 10 ls [])) (kt94 : ∀ (l2 : Int32) (l3 : Nat) (l5 : Nat) (l6 : Int32) (l7 : Int32) (x : CS) (y : MS) (H : Heap) (locs : List Loc) (ls : Array Slot), k94 l2 l3 l5 l6 l7 x y = some q → h_W G y0 (x, y, o) s.heap H locs → lv_has ls 22 [(0, .ref (g_st G 5)), (1, .ref (g_ad G (0))), (2, .int (l2)), (3, g_rf G (l3)), (5, g_rf G (l5)), (6, .int (l6)), (7, .int (l7))] → W p l e (h_lv 200 y0) s m args below meth c H locs (h_nx y - h_nx y0) (h_sl y - h_sl y0) Q (F0 m 94 ls [])) : ∀  (l2 : Int32) (l3 : Nat) (l5 : Nat) (l6 : Int32) (l7 : Int32) (l11 : Int32) (l14 : Int32) (l15 : Int32) (l16 : Int32) (l17 : Int32) (s0 : Int32) (x : CS) (y : MS) (H : Heap) (locs : List Loc) (ls : Array Slot), f_l_L_law_1024 (g_L G) (g_xs G) k10 k94 l2 l3 l5 l6 l7 l11 l14 l15 l16 l17 s0 x y = some q → h_W G y0 (x, y, o) s.heap H locs → lv_has ls 22 [(0, .ref (g_st G 5)), (1, .ref (g_ad G (0))), (2, .int (l2)), (3, g_rf G (l3)), (5, g_rf G (l5)), (6, .int (l6)), (7, .int (l7)), (11, .int (l11)), (14, .int (l14)), (15, .int (l15)), (16, .int (l16)), (17, .int (l17))] → W p l e (h_lv 200 y0) s m args below meth c H locs (h_nx y - h_nx y0) (h_sl y - h_sl y0) Q (F0 m 1024 ls [.int (s0)]) := by
  intro l2 l3 l5 l6 l7 l11 l14 l15 l16 l17 s0 x y H locs ls h hW hl
  unfold f_l_L_law_1024 at h
  refine lv_iload C0.hx C0.hb dL_law_1024 (lv_at hl 7 rfl) ?_
  refine lv_iload C0.hx C0.hb dL_law_1026 (lv_at hl 8 rfl) ?_
  refine lv_icmp_ne (tgt := 1035) C0.hx C0.hb dL_law_1028 (by decide) (fun hc102 => ?_) (fun hc102 => ?_)
  · replace h := (if_neg hc102).symm.trans h
    refine lv_iconst (v := (0 : Int32)) C0.hx C0.hb dL_law_1035 (by decide) ?_
    have hz := w_l_L_law_1036 (l := l) (e := e) (below := below) hfl hq1 KR C0 kt10 kt94 _ _ _ _ _ _ _ _ _ _ _ _ _ _ _ _ _ h hW (lv_sub hl [0, 1, 2, 3, 4, 5, 6, 7, 8, 9, 10, 11] rfl)
    exact hz
  · replace h := (if_pos hc102).symm.trans h
    refine lv_iconst (v := (1 : Int32)) C0.hx C0.hb dL_law_1031 (by decide) ?_
    refine lv_goto (tgt := 1036) C0.hx C0.hb dL_law_1032 (by decide) ?_
    have hz := w_l_L_law_1036 (l := l) (e := e) (below := below) hfl hq1 KR C0 kt10 kt94 _ _ _ _ _ _ _ _ _ _ _ _ _ _ _ _ _ h hW (lv_sub hl [0, 1, 2, 3, 4, 5, 6, 7, 8, 9, 10, 11] rfl)
    exact hz
set_option maxRecDepth 100000 in
set_option maxHeartbeats 4000000 in
theorem w_l_L_law_971 {p : Program} {l : Launch} {e : Env} {s : State} {m : MethodId} {args : Array Value} {below : List Frame} {meth : Method} {c : Code} {Q : State → Prop} {G : GL} {o : Nat → Int32} {y0 : MS} {q : Int32 × CS × MS} {k10 : Int32 → CS → MS → Option (Int32 × CS × MS)} {k94 : Int32 → Nat → Nat → Int32 → Int32 → CS → MS → Option (Int32 × CS × MS)} (hfl : l.stackTraces = false) (hq1 : q.1 = 1) (KR : ∀ (x : CS) (y : MS) (o : Nat → Int32) (pc : Nat) (H : Heap) (locs : List Loc) (ls : Array Slot), h_W G y0 (x, y, o) s.heap H locs → decode cL_law pc = .ok (.ireturn, 1) → W p l e (h_lv 200 y0) s m args below meth c H locs (h_nx y - h_nx y0) (h_sl y - h_sl y0) Q (F0 m pc ls [.int 1])) (C0 : g_X G (List.range 120) p s m args meth c cL_law 22 RL ret) (kt10 : ∀ (l2 : Int32) (x : CS) (y : MS) (H : Heap) (locs : List Loc) (ls : Array Slot), k10 l2 x y = some q → h_W G y0 (x, y, o) s.heap H locs → lv_has ls 22 [(0, .ref (g_st G 5)), (1, .ref (g_ad G (0))), (2, .int (l2))] → W p l e (h_lv 200 y0) s m args below meth c H locs (h_nx y - h_nx y0) (h_sl y - h_sl y0) Q (F0 m 10 ls [])) (kt94 : ∀ (l2 : Int32) (l3 : Nat) (l5 : Nat) (l6 : Int32) (l7 : Int32) (x : CS) (y : MS) (H : Heap) (locs : List Loc) (ls : Array Slot), k94 l2 l3 l5 l6 l7 x y = some q → h_W G y0 (x, y, o) s.heap H locs → lv_has ls 22 [(0, .ref (g_st G 5)), (1, .ref (g_ad G (0))), (2, .int (l2)), (3, g_rf G (l3)), (5, g_rf G (l5)), (6, .int (l6)), (7, .int (l7))] → W p l e (h_lv 200 y0) s m args below meth c H locs (h_nx y - h_nx y0) (h_sl y - h_sl y0) Q (F0 m 94 ls [])) : ∀  (l2 : Int32) (l3 : Nat) (l5 : Nat) (l6 : Int32) (l7 : Int32) (l8 : Int64) (l11 : Int32) (l14 : Int32) (x : CS) (y : MS) (H : Heap) (locs : List Loc) (ls : Array Slot), f_l_L_law_971 (g_L G) (g_xs G) k10 k94 l2 l3 l5 l6 l7 l8 l11 l14 x y = some q → h_W G y0 (x, y, o) s.heap H locs → lv_has ls 22 [(0, .ref (g_st G 5)), (1, .ref (g_ad G (0))), (2, .int (l2)), (3, g_rf G (l3)), (5, g_rf G (l5)), (6, .int (l6)), (7, .int (l7)), (8, .long (l8)), (11, .int (l11)), (14, .int (l14))] → W p l e (h_lv 200 y0) s m args below meth c H locs (h_nx y - h_nx y0) (h_sl y - h_sl y0) Q (F0 m 971 ls []) := by
  intro l2 l3 l5 l6 l7 l8 l11 l14 x y H locs ls h hW hl
  unfold f_l_L_law_971 at h
  refine lv_iconst (v := (1 : Int32)) C0.hx C0.hb dL_law_971 (by decide) ?_
  refine h_aload_n C0.hx C0.hb dL_law_972 rfl (lv_at hl 3 rfl) ?_
  refine lv_bipush (v := (20 : Int32)) C0.hx C0.hb dL_law_973 (by decide) ?_
  obtain ⟨hk78, h⟩ := g_if h
  obtain ⟨q79, hq79, h⟩ := Option.bind_eq_some_iff.mp h
  refine h_calli hW (h_runV (As := [.int ((20 : Int32))]) (rest := [.int ((1 : Int32))]) C0 hW (hW.rf (h_ne hk78 (by decide))) (h_recv C0 hW (h_ne hk78 (by decide)) (h_c50 hk78) rfl) (c_l_X13_next hq79) cy_X13_next (by omega) tm_L_37 ti_X13_next ts_X13_next rfl hl.1 rfl (Nat.le_of_ble_eq_true rfl) dL_law_975) (fun H locs hW => ?_)
  refine lv_iadd C0.hx C0.hb dL_law_978 ?_
  refine lv_istore (lv' := [(15, .int ((1 : Int32) + q79.1)), (0, .ref (g_st G 5)), (1, .ref (g_ad G (0))), (2, .int (l2)), (3, g_rf G (l3)), (5, g_rf G (l5)), (6, .int (l6)), (7, .int (l7)), (8, .long (l8)), (11, .int (l11)), (14, .int (l14))]) C0.hx C0.hb dL_law_979 hl (by decide) rfl (fun ls hl => ?_)
  refine lv_aload_n C0.hx C0.hb dL_law_981 rfl (lv_at hl 2 rfl) ?_
  refine lv_iload C0.hx C0.hb dL_law_982 (lv_at hl 0 rfl) ?_
  obtain ⟨q80, hq80, h⟩ := Option.bind_eq_some_iff.mp h
  refine h_kcalli hW (h_krunV (Sx := (x, y, o)) (As := [.int ((1 : Int32) + q79.1)]) (rest := []) C0 hW (c_X12_keptAfter hq80) rfl ⟨tc_X12_keptAfter, tn_X12, md_X12_keptAfter, by decide⟩ (by omega) tm_L_252 ti_X12_keptAfter ts_X12_keptAfter rfl hl.1 rfl (Nat.le_of_ble_eq_true rfl) dL_law_984) (fun H locs hW => ?_)
  refine lv_istore (lv' := [(16, .int (q80.1)), (15, .int ((1 : Int32) + q79.1)), (0, .ref (g_st G 5)), (1, .ref (g_ad G (0))), (2, .int (l2)), (3, g_rf G (l3)), (5, g_rf G (l5)), (6, .int (l6)), (7, .int (l7)), (8, .long (l8)), (11, .int (l11)), (14, .int (l14))]) C0.hx C0.hb dL_law_987 hl (by decide) rfl (fun ls hl => ?_)
  refine lv_aload_n C0.hx C0.hb dL_law_989 rfl (lv_at hl 3 rfl) ?_
  refine lv_iload C0.hx C0.hb dL_law_990 (lv_at hl 11 rfl) ?_
  obtain ⟨q81, hq81, h⟩ := Option.bind_eq_some_iff.mp h
  refine h_kcalli hW (h_krunV (Sx := (x, y, o)) (As := [.int (l14)]) (rest := []) C0 hW (c_X12_lessonsUntilMeant hq81) rfl ⟨tc_X12_lessonsUntilMeant, tn_X12, md_X12_lessonsUntilMeant, by decide⟩ (by omega) tm_L_255 ti_X12_lessonsUntilMeant ts_X12_lessonsUntilMeant rfl hl.1 rfl (Nat.le_of_ble_eq_true rfl) dL_law_992) (fun H locs hW => ?_)
  refine lv_istore (lv' := [(17, .int (q81.1)), (16, .int (q80.1)), (15, .int ((1 : Int32) + q79.1)), (0, .ref (g_st G 5)), (1, .ref (g_ad G (0))), (2, .int (l2)), (3, g_rf G (l3)), (5, g_rf G (l5)), (6, .int (l6)), (7, .int (l7)), (8, .long (l8)), (11, .int (l11)), (14, .int (l14))]) C0.hx C0.hb dL_law_995 hl (by decide) rfl (fun ls hl => ?_)
  refine lv_aload_n C0.hx C0.hb dL_law_997 rfl (lv_at hl 4 rfl) ?_
  obtain ⟨q82, hq82, h⟩ := Option.bind_eq_some_iff.mp h
  refine h_kcalll hW (h_krunV (Sx := (x, y, o)) (As := []) (rest := []) C0 hW (c_X12_digest hq82) rfl ⟨tc_X12_digest, tn_X12, md_X12_digest, by decide⟩ (by omega) tm_L_176 ti_X12_digest ts_X12_digest rfl hl.1 rfl (Nat.le_of_ble_eq_true rfl) dL_law_998) (fun H locs hW => ?_)
  refine lv_lload C0.hx C0.hb dL_law_1001 (lv_at hl 10 rfl) ?_
  refine W.lcmp C0.hx C0.hb dL_law_1003 ?_
  refine lv_if_ne (tgt := 1039) C0.hx C0.hb dL_law_1004 (by decide) (fun hc83 => ?_) (fun hc83 => ?_)
  · replace h := (if_neg hc83).symm.trans h
    refine lv_iconst (v := (0 : Int32)) C0.hx C0.hb dL_law_1039 (by decide) ?_
    obtain rfl := Option.some.inj h
    exact h_lret hq1 (KR _ _ _ _ _ _ _ hW dL_law_1040)
  · replace h := (if_pos hc83).symm.trans h
    refine lv_iload C0.hx C0.hb dL_law_1007 (lv_at hl 0 rfl) ?_
    refine lv_bipush (v := (20 : Int32)) C0.hx C0.hb dL_law_1009 (by decide) ?_
    refine lv_icmp_gt (tgt := 1039) C0.hx C0.hb dL_law_1011 (by decide) (fun hc84 => ?_) (fun hc84 => ?_)
    · replace h := (if_pos hc84).symm.trans h
      refine lv_iconst (v := (0 : Int32)) C0.hx C0.hb dL_law_1039 (by decide) ?_
      obtain rfl := Option.some.inj h
      exact h_lret hq1 (KR _ _ _ _ _ _ _ hW dL_law_1040)
    · replace h := (if_neg hc84).symm.trans h
      refine lv_iload C0.hx C0.hb dL_law_1014 (lv_at hl 0 rfl) ?_
      refine lv_if_ne (tgt := 1023) C0.hx C0.hb dL_law_1016 (by decide) (fun hc85 => ?_) (fun hc85 => ?_)
      · replace h := (if_neg hc85).symm.trans h
        refine lv_iconst (v := (0 : Int32)) C0.hx C0.hb dL_law_1023 (by decide) ?_
        have hz := w_l_L_law_1024 (l := l) (e := e) (below := below) hfl hq1 KR C0 kt10 kt94 _ _ _ _ _ _ _ _ _ _ _ _ _ _ _ _ h hW (lv_sub hl [3, 4, 5, 6, 7, 8, 9, 11, 12, 2, 1, 0] rfl)
        exact hz
      · replace h := (if_pos hc85).symm.trans h
        refine lv_iconst (v := (1 : Int32)) C0.hx C0.hb dL_law_1019 (by decide) ?_
        refine lv_goto (tgt := 1024) C0.hx C0.hb dL_law_1020 (by decide) ?_
        have hz := w_l_L_law_1024 (l := l) (e := e) (below := below) hfl hq1 KR C0 kt10 kt94 _ _ _ _ _ _ _ _ _ _ _ _ _ _ _ _ h hW (lv_sub hl [3, 4, 5, 6, 7, 8, 9, 11, 12, 2, 1, 0] rfl)
        exact hz
set_option maxRecDepth 100000 in
set_option maxHeartbeats 4000000 in
theorem w_l_L_law_824 {p : Program} {l : Launch} {e : Env} {s : State} {m : MethodId} {args : Array Value} {below : List Frame} {meth : Method} {c : Code} {Q : State → Prop} {G : GL} {o : Nat → Int32} {y0 : MS} {q : Int32 × CS × MS} {k10 : Int32 → CS → MS → Option (Int32 × CS × MS)} {k94 : Int32 → Nat → Nat → Int32 → Int32 → CS → MS → Option (Int32 × CS × MS)} (hfl : l.stackTraces = false) (hq1 : q.1 = 1) (KR : ∀ (x : CS) (y : MS) (o : Nat → Int32) (pc : Nat) (H : Heap) (locs : List Loc) (ls : Array Slot), h_W G y0 (x, y, o) s.heap H locs → decode cL_law pc = .ok (.ireturn, 1) → W p l e (h_lv 200 y0) s m args below meth c H locs (h_nx y - h_nx y0) (h_sl y - h_sl y0) Q (F0 m pc ls [.int 1])) (C0 : g_X G (List.range 120) p s m args meth c cL_law 22 RL ret) (kt10 : ∀ (l2 : Int32) (x : CS) (y : MS) (H : Heap) (locs : List Loc) (ls : Array Slot), k10 l2 x y = some q → h_W G y0 (x, y, o) s.heap H locs → lv_has ls 22 [(0, .ref (g_st G 5)), (1, .ref (g_ad G (0))), (2, .int (l2))] → W p l e (h_lv 200 y0) s m args below meth c H locs (h_nx y - h_nx y0) (h_sl y - h_sl y0) Q (F0 m 10 ls [])) (kt94 : ∀ (l2 : Int32) (l3 : Nat) (l5 : Nat) (l6 : Int32) (l7 : Int32) (x : CS) (y : MS) (H : Heap) (locs : List Loc) (ls : Array Slot), k94 l2 l3 l5 l6 l7 x y = some q → h_W G y0 (x, y, o) s.heap H locs → lv_has ls 22 [(0, .ref (g_st G 5)), (1, .ref (g_ad G (0))), (2, .int (l2)), (3, g_rf G (l3)), (5, g_rf G (l5)), (6, .int (l6)), (7, .int (l7))] → W p l e (h_lv 200 y0) s m args below meth c H locs (h_nx y - h_nx y0) (h_sl y - h_sl y0) Q (F0 m 94 ls [])) : ∀  (l2 : Int32) (l3 : Nat) (l5 : Nat) (l6 : Int32) (l7 : Int32) (l8 : Int64) (l10 : Int32) (l11 : Int32) (x : CS) (y : MS) (H : Heap) (locs : List Loc) (ls : Array Slot), f_l_L_law_824 (g_L G) (g_xs G) k10 k94 l2 l3 l5 l6 l7 l8 l10 l11 x y = some q → h_W G y0 (x, y, o) s.heap H locs → lv_has ls 22 [(0, .ref (g_st G 5)), (1, .ref (g_ad G (0))), (2, .int (l2)), (3, g_rf G (l3)), (5, g_rf G (l5)), (6, .int (l6)), (7, .int (l7)), (8, .long (l8)), (10, .int (l10)), (11, .int (l11))] → W p l e (h_lv 200 y0) s m args below meth c H locs (h_nx y - h_nx y0) (h_sl y - h_sl y0) Q (F0 m 824 ls []) := by
  intro l2 l3 l5 l6 l7 l8 l10 l11 x y H locs ls h hW hl
  unfold f_l_L_law_824 at h
  refine h_aload_n C0.hx C0.hb dL_law_824 rfl (lv_at hl 3 rfl) ?_
  refine lv_iload C0.hx C0.hb dL_law_825 (lv_at hl 5 rfl) ?_
  obtain ⟨hk42, h⟩ := g_if h
  obtain ⟨q43, hq43, h⟩ := Option.bind_eq_some_iff.mp h
  refine h_calli hW (h_runV (As := [.int (l6)]) (rest := []) C0 hW (hW.rf (h_ne hk42 (by decide))) (h_recv C0 hW (h_ne hk42 (by decide)) (h_c50 hk42) rfl) (c_l_X13_next hq43) cy_X13_next (by omega) tm_L_37 ti_X13_next ts_X13_next rfl hl.1 rfl (Nat.le_of_ble_eq_true rfl) dL_law_827) (fun H locs hW => ?_)
  refine lv_istore (lv' := [(14, .int (q43.1)), (0, .ref (g_st G 5)), (1, .ref (g_ad G (0))), (2, .int (l2)), (3, g_rf G (l3)), (5, g_rf G (l5)), (6, .int (l6)), (7, .int (l7)), (8, .long (l8)), (10, .int (l10)), (11, .int (l11))]) C0.hx C0.hb dL_law_830 hl (by decide) rfl (fun ls hl => ?_)
  refine lv_iload C0.hx C0.hb dL_law_832 (lv_at hl 9 rfl) ?_
  refine lv_if_le (tgt := 971) C0.hx C0.hb dL_law_834 (by decide) (fun hc44 => ?_) (fun hc44 => ?_)
  · replace h := (if_pos hc44).symm.trans h
    have hz := w_l_L_law_971 (l := l) (e := e) (below := below) hfl hq1 KR C0 kt10 kt94 _ _ _ _ _ _ _ _ _ _ _ _ _ h hW (lv_sub hl [1, 2, 3, 4, 5, 6, 7, 8, 10, 0] rfl)
    exact hz
  · replace h := (if_neg hc44).symm.trans h
    refine lv_aload_n C0.hx C0.hb dL_law_837 rfl (lv_at hl 2 rfl) ?_
    refine lv_iload C0.hx C0.hb dL_law_838 (lv_at hl 0 rfl) ?_
    obtain ⟨q45, hq45, h⟩ := Option.bind_eq_some_iff.mp h
    refine h_kcalli hW (h_krunV (Sx := (x, y, o)) (As := [.int (q43.1)]) (rest := []) C0 hW (c_X12_bestShift hq45) rfl ⟨tc_X12_bestShift, tn_X12, md_X12_bestShift, by decide⟩ (by omega) tm_L_242 ti_X12_bestShift ts_X12_bestShift rfl hl.1 rfl (Nat.le_of_ble_eq_true rfl) dL_law_840) (fun H locs hW => ?_)
    refine lv_istore (lv' := [(15, .int (q45.1)), (14, .int (q43.1)), (0, .ref (g_st G 5)), (1, .ref (g_ad G (0))), (2, .int (l2)), (3, g_rf G (l3)), (5, g_rf G (l5)), (6, .int (l6)), (7, .int (l7)), (8, .long (l8)), (10, .int (l10)), (11, .int (l11))]) C0.hx C0.hb dL_law_843 hl (by decide) rfl (fun ls hl => ?_)
    refine h_aload_n C0.hx C0.hb dL_law_845 rfl (lv_at hl 5 rfl) ?_
    refine lv_bipush (v := (79 : Int32)) C0.hx C0.hb dL_law_846 (by decide) ?_
    obtain ⟨hk46, h⟩ := g_if h
    obtain ⟨q47, hq47, h⟩ := Option.bind_eq_some_iff.mp h
    refine h_calli hW (h_runV (As := [.int ((79 : Int32))]) (rest := []) C0 hW (hW.rf (h_ne hk46 (by decide))) (h_recv C0 hW (h_ne hk46 (by decide)) (h_c50 hk46) rfl) (c_l_X13_next hq47) cy_X13_next (by omega) tm_L_37 ti_X13_next ts_X13_next rfl hl.1 rfl (Nat.le_of_ble_eq_true rfl) dL_law_848) (fun H locs hW => ?_)
    refine lv_bipush (v := (39 : Int32)) C0.hx C0.hb dL_law_851 (by decide) ?_
    refine lv_isub C0.hx C0.hb dL_law_853 ?_
    refine lv_istore (lv' := [(16, .int (q47.1 - (39 : Int32))), (15, .int (q45.1)), (14, .int (q43.1)), (0, .ref (g_st G 5)), (1, .ref (g_ad G (0))), (2, .int (l2)), (3, g_rf G (l3)), (5, g_rf G (l5)), (6, .int (l6)), (7, .int (l7)), (8, .long (l8)), (10, .int (l10)), (11, .int (l11))]) C0.hx C0.hb dL_law_854 hl (by decide) rfl (fun ls hl => ?_)
    refine h_aload C0.hx C0.hb dL_law_856 (lv_at hl 7 rfl) ?_
    refine h_aload C0.hx C0.hb dL_law_858 (lv_at hl 7 rfl) ?_
    obtain ⟨hk48, h⟩ := g_if h
    refine hf_X16_2 C0 hW hk48 tf_L_44 dL_law_860 ?_
    refine lv_iload C0.hx C0.hb dL_law_863 (lv_at hl 2 rfl) ?_
    obtain ⟨hk49, h⟩ := g_if h
    obtain ⟨hn50, h⟩ := g_if h
    refine ha_63 C0 hW hk49 hn50 dL_law_865 ?_
    refine h_aload C0.hx C0.hb dL_law_866 (lv_at hl 7 rfl) ?_
    refine hf_X16_4 C0 hW hk48 tf_L_113 dL_law_868 ?_
    refine lv_iload C0.hx C0.hb dL_law_871 (lv_at hl 1 rfl) ?_
    refine lv_i2l C0.hx C0.hb dL_law_873 rfl ?_
    obtain ⟨q51, hq51, h⟩ := Option.bind_eq_some_iff.mp h
    refine h_callr hW (h_runS (As := [g_rf G (h_R q47.2 l5 4), .long (q45.1.toInt64)]) (rest := [g_rf G (h_R q47.2 (h_R q47.2 l5 2) q43.1.toNatClampNeg), g_rf G (l5)]) C0 hW (c_l_X16_shifted hq51) cy_X16_shifted (by omega) tm_L_121 tz_X16_shifted rfl hl.1 rfl (by simp [g_catQ, h_ki, h_kr, h_kn, h_kl, h_kd]) dL_law_874) (fun H locs hW => ?_)
    obtain ⟨hk52, h⟩ := g_if h
    obtain ⟨q53, hq53, h⟩ := Option.bind_eq_some_iff.mp h
    refine h_calli hW (h_runV (As := [g_rf G (h_R q47.2 (h_R q47.2 l5 2) q43.1.toNatClampNeg), g_rf G (q51.1)]) (rest := []) C0 hW (hW.rf (h_ne hk52 (by decide))) (h_recv C0 hW (h_ne hk52 (by decide)) (h_c53 hk52) rfl) (c_l_X16_far hq53) cy_X16_far (by omega) tm_L_245 ti_X16_far ts_X16_far rfl hl.1 rfl (Nat.le_of_ble_eq_true rfl) dL_law_877) (fun H locs hW => ?_)
    refine lv_istore (lv' := [(17, .int (q53.1)), (16, .int (q47.1 - (39 : Int32))), (15, .int (q45.1)), (14, .int (q43.1)), (0, .ref (g_st G 5)), (1, .ref (g_ad G (0))), (2, .int (l2)), (3, g_rf G (l3)), (5, g_rf G (l5)), (6, .int (l6)), (7, .int (l7)), (8, .long (l8)), (10, .int (l10)), (11, .int (l11))]) C0.hx C0.hb dL_law_880 hl (by decide) rfl (fun ls hl => ?_)
    refine h_aload C0.hx C0.hb dL_law_882 (lv_at hl 8 rfl) ?_
    refine h_aload C0.hx C0.hb dL_law_884 (lv_at hl 8 rfl) ?_
    obtain ⟨hk54, h⟩ := g_if h
    refine hf_X16_2 C0 hW hk54 tf_L_44 dL_law_886 ?_
    refine lv_iload C0.hx C0.hb dL_law_889 (lv_at hl 3 rfl) ?_
    obtain ⟨hk55, h⟩ := g_if h
    obtain ⟨hn56, h⟩ := g_if h
    refine ha_63 C0 hW hk55 hn56 dL_law_891 ?_
    refine h_aload C0.hx C0.hb dL_law_892 (lv_at hl 8 rfl) ?_
    refine hf_X16_4 C0 hW hk54 tf_L_113 dL_law_894 ?_
    refine lv_iload C0.hx C0.hb dL_law_897 (lv_at hl 1 rfl) ?_
    refine lv_i2l C0.hx C0.hb dL_law_899 rfl ?_
    obtain ⟨q57, hq57, h⟩ := Option.bind_eq_some_iff.mp h
    refine h_callr hW (h_runS (As := [g_rf G (h_R q53.2 l5 4), .long ((q47.1 - (39 : Int32)).toInt64)]) (rest := [g_rf G (h_R q53.2 (h_R q53.2 l5 2) q43.1.toNatClampNeg), g_rf G (l5)]) C0 hW (c_l_X16_shifted hq57) cy_X16_shifted (by omega) tm_L_121 tz_X16_shifted rfl hl.1 rfl (by simp [g_catQ, h_ki, h_kr, h_kn, h_kl, h_kd]) dL_law_900) (fun H locs hW => ?_)
    obtain ⟨hk58, h⟩ := g_if h
    obtain ⟨q59, hq59, h⟩ := Option.bind_eq_some_iff.mp h
    refine h_calli hW (h_runV (As := [g_rf G (h_R q53.2 (h_R q53.2 l5 2) q43.1.toNatClampNeg), g_rf G (q57.1)]) (rest := []) C0 hW (hW.rf (h_ne hk58 (by decide))) (h_recv C0 hW (h_ne hk58 (by decide)) (h_c53 hk58) rfl) (c_l_X16_far hq59) cy_X16_far (by omega) tm_L_245 ti_X16_far ts_X16_far rfl hl.1 rfl (Nat.le_of_ble_eq_true rfl) dL_law_903) (fun H locs hW => ?_)
    refine lv_istore (lv' := [(18, .int (q59.1)), (17, .int (q53.1)), (16, .int (q47.1 - (39 : Int32))), (15, .int (q45.1)), (14, .int (q43.1)), (0, .ref (g_st G 5)), (1, .ref (g_ad G (0))), (2, .int (l2)), (3, g_rf G (l3)), (5, g_rf G (l5)), (6, .int (l6)), (7, .int (l7)), (8, .long (l8)), (10, .int (l10)), (11, .int (l11))]) C0.hx C0.hb dL_law_906 hl (by decide) rfl (fun ls hl => ?_)
    refine lv_iload C0.hx C0.hb dL_law_908 (lv_at hl 3 rfl) ?_
    refine lv_bipush (v := (-39 : Int32)) C0.hx C0.hb dL_law_910 (by decide) ?_
    refine lv_icmp_lt (tgt := 969) C0.hx C0.hb dL_law_912 (by decide) (fun hc60 => ?_) (fun hc60 => ?_)
    · replace h := (if_pos hc60).symm.trans h
      refine lv_iconst (v := (0 : Int32)) C0.hx C0.hb dL_law_969 (by decide) ?_
      obtain rfl := Option.some.inj h
      exact h_lret hq1 (KR _ _ _ _ _ _ _ hW dL_law_970)
    · replace h := (if_neg hc60).symm.trans h
      refine lv_iload C0.hx C0.hb dL_law_915 (lv_at hl 3 rfl) ?_
      refine lv_bipush (v := (39 : Int32)) C0.hx C0.hb dL_law_917 (by decide) ?_
      refine lv_icmp_gt (tgt := 969) C0.hx C0.hb dL_law_919 (by decide) (fun hc61 => ?_) (fun hc61 => ?_)
      · replace h := (if_pos hc61).symm.trans h
        refine lv_iconst (v := (0 : Int32)) C0.hx C0.hb dL_law_969 (by decide) ?_
        obtain rfl := Option.some.inj h
        exact h_lret hq1 (KR _ _ _ _ _ _ _ hW dL_law_970)
      · replace h := (if_neg hc61).symm.trans h
        refine lv_iload C0.hx C0.hb dL_law_922 (lv_at hl 0 rfl) ?_
        refine lv_iload C0.hx C0.hb dL_law_924 (lv_at hl 1 rfl) ?_
        refine lv_icmp_lt (tgt := 969) C0.hx C0.hb dL_law_926 (by decide) (fun hc62 => ?_) (fun hc62 => ?_)
        · replace h := (if_pos hc62).symm.trans h
          refine lv_iconst (v := (0 : Int32)) C0.hx C0.hb dL_law_969 (by decide) ?_
          obtain rfl := Option.some.inj h
          exact h_lret hq1 (KR _ _ _ _ _ _ _ hW dL_law_970)
        · replace h := (if_neg hc62).symm.trans h
          refine lv_iload C0.hx C0.hb dL_law_929 (lv_at hl 0 rfl) ?_
          refine lv_iload C0.hx C0.hb dL_law_931 (lv_at hl 1 rfl) ?_
          refine lv_icmp_ne (tgt := 971) C0.hx C0.hb dL_law_933 (by decide) (fun hc63 => ?_) (fun hc63 => ?_)
          · replace h := (if_neg hc63).symm.trans h
            have hz := w_l_L_law_971 (l := l) (e := e) (below := below) hfl hq1 KR C0 kt10 kt94 _ _ _ _ _ _ _ _ _ _ _ _ _ h hW (lv_sub hl [5, 6, 7, 8, 9, 10, 11, 12, 14, 4] rfl)
            exact hz
          · replace h := (if_pos hc63).symm.trans h
            refine lv_iload C0.hx C0.hb dL_law_936 (lv_at hl 2 rfl) ?_
            refine h_absR C0 hW hl.1 (by show 1 ≤ 200; omega) (Nat.le_of_ble_eq_true rfl) tm_L_249 dL_law_938 ?_
            refine lv_iload C0.hx C0.hb dL_law_941 (lv_at hl 3 rfl) ?_
            refine h_absR C0 hW hl.1 (by show 1 ≤ 200; omega) (Nat.le_of_ble_eq_true rfl) tm_L_249 dL_law_943 ?_
            refine lv_icmp_lt (tgt := 969) C0.hx C0.hb dL_law_946 (by decide) (fun hc64 => ?_) (fun hc64 => ?_)
            · replace h := (if_pos hc64).symm.trans h
              refine lv_iconst (v := (0 : Int32)) C0.hx C0.hb dL_law_969 (by decide) ?_
              obtain rfl := Option.some.inj h
              exact h_lret hq1 (KR _ _ _ _ _ _ _ hW dL_law_970)
            · replace h := (if_neg hc64).symm.trans h
              refine lv_iload C0.hx C0.hb dL_law_949 (lv_at hl 2 rfl) ?_
              refine h_absR C0 hW hl.1 (by show 1 ≤ 200; omega) (Nat.le_of_ble_eq_true rfl) tm_L_249 dL_law_951 ?_
              refine lv_iload C0.hx C0.hb dL_law_954 (lv_at hl 3 rfl) ?_
              refine h_absR C0 hW hl.1 (by show 1 ≤ 200; omega) (Nat.le_of_ble_eq_true rfl) tm_L_249 dL_law_956 ?_
              refine lv_icmp_ne (tgt := 971) C0.hx C0.hb dL_law_959 (by decide) (fun hc65 => ?_) (fun hc65 => ?_)
              · replace h := (if_neg hc65).symm.trans h
                have hz := w_l_L_law_971 (l := l) (e := e) (below := below) hfl hq1 KR C0 kt10 kt94 _ _ _ _ _ _ _ _ _ _ _ _ _ h hW (lv_sub hl [5, 6, 7, 8, 9, 10, 11, 12, 14, 4] rfl)
                exact hz
              · replace h := (if_pos hc65).symm.trans h
                refine lv_iload C0.hx C0.hb dL_law_962 (lv_at hl 2 rfl) ?_
                refine lv_iload C0.hx C0.hb dL_law_964 (lv_at hl 3 rfl) ?_
                refine lv_icmp_le (tgt := 971) C0.hx C0.hb dL_law_966 (by decide) (fun hc66 => ?_) (fun hc66 => ?_)
                · replace h := (if_pos hc66).symm.trans h
                  have hz := w_l_L_law_971 (l := l) (e := e) (below := below) hfl hq1 KR C0 kt10 kt94 _ _ _ _ _ _ _ _ _ _ _ _ _ h hW (lv_sub hl [5, 6, 7, 8, 9, 10, 11, 12, 14, 4] rfl)
                  exact hz
                · replace h := (if_neg hc66).symm.trans h
                  refine lv_iconst (v := (0 : Int32)) C0.hx C0.hb dL_law_969 (by decide) ?_
                  obtain rfl := Option.some.inj h
                  exact h_lret hq1 (KR _ _ _ _ _ _ _ hW dL_law_970)
set_option maxRecDepth 100000 in
set_option maxHeartbeats 4000000 in
theorem w_l_L_law_819 {p : Program} {l : Launch} {e : Env} {s : State} {m : MethodId} {args : Array Value} {below : List Frame} {meth : Method} {c : Code} {Q : State → Prop} {G : GL} {o : Nat → Int32} {y0 : MS} {q : Int32 × CS × MS} {k10 : Int32 → CS → MS → Option (Int32 × CS × MS)} {k94 : Int32 → Nat → Nat → Int32 → Int32 → CS → MS → Option (Int32 × CS × MS)} (hfl : l.stackTraces = false) (hq1 : q.1 = 1) (KR : ∀ (x : CS) (y : MS) (o : Nat → Int32) (pc : Nat) (H : Heap) (locs : List Loc) (ls : Array Slot), h_W G y0 (x, y, o) s.heap H locs → decode cL_law pc = .ok (.ireturn, 1) → W p l e (h_lv 200 y0) s m args below meth c H locs (h_nx y - h_nx y0) (h_sl y - h_sl y0) Q (F0 m pc ls [.int 1])) (C0 : g_X G (List.range 120) p s m args meth c cL_law 22 RL ret) (kt10 : ∀ (l2 : Int32) (x : CS) (y : MS) (H : Heap) (locs : List Loc) (ls : Array Slot), k10 l2 x y = some q → h_W G y0 (x, y, o) s.heap H locs → lv_has ls 22 [(0, .ref (g_st G 5)), (1, .ref (g_ad G (0))), (2, .int (l2))] → W p l e (h_lv 200 y0) s m args below meth c H locs (h_nx y - h_nx y0) (h_sl y - h_sl y0) Q (F0 m 10 ls [])) (kt94 : ∀ (l2 : Int32) (l3 : Nat) (l5 : Nat) (l6 : Int32) (l7 : Int32) (x : CS) (y : MS) (H : Heap) (locs : List Loc) (ls : Array Slot), k94 l2 l3 l5 l6 l7 x y = some q → h_W G y0 (x, y, o) s.heap H locs → lv_has ls 22 [(0, .ref (g_st G 5)), (1, .ref (g_ad G (0))), (2, .int (l2)), (3, g_rf G (l3)), (5, g_rf G (l5)), (6, .int (l6)), (7, .int (l7))] → W p l e (h_lv 200 y0) s m args below meth c H locs (h_nx y - h_nx y0) (h_sl y - h_sl y0) Q (F0 m 94 ls [])) : ∀  (l2 : Int32) (l3 : Nat) (l5 : Nat) (l6 : Int32) (l7 : Int32) (l8 : Int64) (l10 : Int32) (l11 : Int32) (s0 : Int32) (s1 : Int32) (x : CS) (y : MS) (H : Heap) (locs : List Loc) (ls : Array Slot), f_l_L_law_819 (g_L G) (g_xs G) k10 k94 l2 l3 l5 l6 l7 l8 l10 l11 s0 s1 x y = some q → h_W G y0 (x, y, o) s.heap H locs → lv_has ls 22 [(0, .ref (g_st G 5)), (1, .ref (g_ad G (0))), (2, .int (l2)), (3, g_rf G (l3)), (5, g_rf G (l5)), (6, .int (l6)), (7, .int (l7)), (8, .long (l8)), (10, .int (l10)), (11, .int (l11))] → W p l e (h_lv 200 y0) s m args below meth c H locs (h_nx y - h_nx y0) (h_sl y - h_sl y0) Q (F0 m 819 ls [.int (s0), .int (s1)]) := by
  intro l2 l3 l5 l6 l7 l8 l10 l11 s0 s1 x y H locs ls h hW hl
  unfold f_l_L_law_819 at h
  refine lv_icmp_eq (tgt := 824) C0.hx C0.hb dL_law_819 (by decide) (fun hc67 => ?_) (fun hc67 => ?_)
  · replace h := (if_pos hc67).symm.trans h
    have hz := w_l_L_law_824 (l := l) (e := e) (below := below) hfl hq1 KR C0 kt10 kt94 _ _ _ _ _ _ _ _ _ _ _ _ _ h hW (lv_sub hl [0, 1, 2, 3, 4, 5, 6, 7, 8, 9] rfl)
    exact hz
  · replace h := (if_neg hc67).symm.trans h
    refine lv_iconst (v := (0 : Int32)) C0.hx C0.hb dL_law_822 (by decide) ?_
    obtain rfl := Option.some.inj h
    exact h_lret hq1 (KR _ _ _ _ _ _ _ hW dL_law_823)
set_option maxRecDepth 100000 in
set_option maxHeartbeats 4000000 in
theorem w_l_L_law_757 {p : Program} {l : Launch} {e : Env} {s : State} {m : MethodId} {args : Array Value} {below : List Frame} {meth : Method} {c : Code} {Q : State → Prop} {G : GL} {o : Nat → Int32} {y0 : MS} {q : Int32 × CS × MS} {k10 : Int32 → CS → MS → Option (Int32 × CS × MS)} {k94 : Int32 → Nat → Nat → Int32 → Int32 → CS → MS → Option (Int32 × CS × MS)} {k215 : Int32 → Nat → Nat → Int32 → Int32 → Int64 → Int32 → Int32 → Int32 → Int32 → Int32 → CS → MS → Option (Int32 × CS × MS)} (hfl : l.stackTraces = false) (hq1 : q.1 = 1) (KR : ∀ (x : CS) (y : MS) (o : Nat → Int32) (pc : Nat) (H : Heap) (locs : List Loc) (ls : Array Slot), h_W G y0 (x, y, o) s.heap H locs → decode cL_law pc = .ok (.ireturn, 1) → W p l e (h_lv 200 y0) s m args below meth c H locs (h_nx y - h_nx y0) (h_sl y - h_sl y0) Q (F0 m pc ls [.int 1])) (C0 : g_X G (List.range 120) p s m args meth c cL_law 22 RL ret) (kt10 : ∀ (l2 : Int32) (x : CS) (y : MS) (H : Heap) (locs : List Loc) (ls : Array Slot), k10 l2 x y = some q → h_W G y0 (x, y, o) s.heap H locs → lv_has ls 22 [(0, .ref (g_st G 5)), (1, .ref (g_ad G (0))), (2, .int (l2))] → W p l e (h_lv 200 y0) s m args below meth c H locs (h_nx y - h_nx y0) (h_sl y - h_sl y0) Q (F0 m 10 ls [])) (kt94 : ∀ (l2 : Int32) (l3 : Nat) (l5 : Nat) (l6 : Int32) (l7 : Int32) (x : CS) (y : MS) (H : Heap) (locs : List Loc) (ls : Array Slot), k94 l2 l3 l5 l6 l7 x y = some q → h_W G y0 (x, y, o) s.heap H locs → lv_has ls 22 [(0, .ref (g_st G 5)), (1, .ref (g_ad G (0))), (2, .int (l2)), (3, g_rf G (l3)), (5, g_rf G (l5)), (6, .int (l6)), (7, .int (l7))] → W p l e (h_lv 200 y0) s m args below meth c H locs (h_nx y - h_nx y0) (h_sl y - h_sl y0) Q (F0 m 94 ls [])) (kt215 : ∀ (l2 : Int32) (l3 : Nat) (l5 : Nat) (l6 : Int32) (l7 : Int32) (l8 : Int64) (l10 : Int32) (l11 : Int32) (l12 : Int32) (l13 : Int32) (l14 : Int32) (x : CS) (y : MS) (H : Heap) (locs : List Loc) (ls : Array Slot), k215 l2 l3 l5 l6 l7 l8 l10 l11 l12 l13 l14 x y = some q → h_W G y0 (x, y, o) s.heap H locs → lv_has ls 22 [(0, .ref (g_st G 5)), (1, .ref (g_ad G (0))), (2, .int (l2)), (3, g_rf G (l3)), (5, g_rf G (l5)), (6, .int (l6)), (7, .int (l7)), (8, .long (l8)), (10, .int (l10)), (11, .int (l11)), (12, .int (l12)), (13, .int (l13)), (14, .int (l14))] → W p l e (h_lv 200 y0) s m args below meth c H locs (h_nx y - h_nx y0) (h_sl y - h_sl y0) Q (F0 m 215 ls [])) : ∀  (l2 : Int32) (l3 : Nat) (l5 : Nat) (l6 : Int32) (l7 : Int32) (l8 : Int64) (l10 : Int32) (l11 : Int32) (l12 : Int32) (l13 : Int32) (l14 : Int32) (l18 : Int32) (x : CS) (y : MS) (H : Heap) (locs : List Loc) (ls : Array Slot), f_l_L_law_757 (g_L G) (g_xs G) k10 k94 k215 l2 l3 l5 l6 l7 l8 l10 l11 l12 l13 l14 l18 x y = some q → h_W G y0 (x, y, o) s.heap H locs → lv_has ls 22 [(0, .ref (g_st G 5)), (1, .ref (g_ad G (0))), (2, .int (l2)), (3, g_rf G (l3)), (5, g_rf G (l5)), (6, .int (l6)), (7, .int (l7)), (8, .long (l8)), (10, .int (l10)), (11, .int (l11)), (12, .int (l12)), (13, .int (l13)), (14, .int (l14)), (18, .int (l18))] → W p l e (h_lv 200 y0) s m args below meth c H locs (h_nx y - h_nx y0) (h_sl y - h_sl y0) Q (F0 m 757 ls []) := by
  intro l2 l3 l5 l6 l7 l8 l10 l11 l12 l13 l14 l18 x y H locs ls h hW hl
  unfold f_l_L_law_757 at h
  refine lv_iload C0.hx C0.hb dL_law_757 (lv_at hl 12 rfl) ?_
  refine lv_iload C0.hx C0.hb dL_law_759 (lv_at hl 9 rfl) ?_
  refine lv_icmp_eq (tgt := 784) C0.hx C0.hb dL_law_761 (by decide) (fun hc135 => ?_) (fun hc135 => ?_)
  · replace h := (if_pos hc135).symm.trans h
    refine lv_iinc (v := l14 + (1 : Int32)) (lv' := [(14, .int (l14 + (1 : Int32))), (0, .ref (g_st G 5)), (1, .ref (g_ad G (0))), (2, .int (l2)), (3, g_rf G (l3)), (5, g_rf G (l5)), (6, .int (l6)), (7, .int (l7)), (8, .long (l8)), (10, .int (l10)), (11, .int (l11)), (12, .int (l12)), (13, .int (l13)), (18, .int (l18))]) C0.hx C0.hb dL_law_784 hl (k := 12) rfl rfl (by decide) rfl (fun ls hl => ?_)
    refine lv_goto (tgt := 215) C0.hx C0.hb dL_law_787 (by decide) ?_
    have hz := kt215 _ _ _ _ _ _ _ _ _ _ _ _ _ _ _ _ h hW (lv_sub hl [1, 2, 3, 4, 5, 6, 7, 8, 9, 10, 11, 12, 0] rfl)
    exact hz
  · replace h := (if_neg hc135).symm.trans h
    refine lv_iload C0.hx C0.hb dL_law_764 (lv_at hl 11 rfl) ?_
    refine lv_if_lt (tgt := 780) C0.hx C0.hb dL_law_766 (by decide) (fun hc136 => ?_) (fun hc136 => ?_)
    · replace h := (if_pos hc136).symm.trans h
      refine lv_iload C0.hx C0.hb dL_law_780 (lv_at hl 12 rfl) ?_
      refine lv_istore (lv' := [(13, .int (l14)), (0, .ref (g_st G 5)), (1, .ref (g_ad G (0))), (2, .int (l2)), (3, g_rf G (l3)), (5, g_rf G (l5)), (6, .int (l6)), (7, .int (l7)), (8, .long (l8)), (10, .int (l10)), (11, .int (l11)), (12, .int (l12)), (14, .int (l14)), (18, .int (l18))]) C0.hx C0.hb dL_law_782 hl (by decide) rfl (fun ls hl => ?_)
      refine lv_iinc (v := l14 + (1 : Int32)) (lv' := [(14, .int (l14 + (1 : Int32))), (13, .int (l14)), (0, .ref (g_st G 5)), (1, .ref (g_ad G (0))), (2, .int (l2)), (3, g_rf G (l3)), (5, g_rf G (l5)), (6, .int (l6)), (7, .int (l7)), (8, .long (l8)), (10, .int (l10)), (11, .int (l11)), (12, .int (l12)), (18, .int (l18))]) C0.hx C0.hb dL_law_784 hl (k := 12) rfl rfl (by decide) rfl (fun ls hl => ?_)
      refine lv_goto (tgt := 215) C0.hx C0.hb dL_law_787 (by decide) ?_
      have hz := kt215 _ _ _ _ _ _ _ _ _ _ _ _ _ _ _ _ h hW (lv_sub hl [2, 3, 4, 5, 6, 7, 8, 9, 10, 11, 12, 1, 0] rfl)
      exact hz
    · replace h := (if_neg hc136).symm.trans h
      refine lv_iload C0.hx C0.hb dL_law_769 (lv_at hl 13 rfl) ?_
      refine lv_aload_n C0.hx C0.hb dL_law_771 rfl (lv_at hl 1 rfl) ?_
      refine lv_iload C0.hx C0.hb dL_law_772 (lv_at hl 11 rfl) ?_
      obtain ⟨q137, hq137, h⟩ := Option.bind_eq_some_iff.mp h
      refine h_kcalli hW (h_krunV (Sx := (x, y, o)) (As := [.int (l13)]) (rest := [.int (l18)]) C0 hW (c_X12_distanceTo hq137) rfl ⟨tc_X12_distanceTo, tn_X12, md_X12_distanceTo, by decide⟩ (by omega) tm_L_233 ti_X12_distanceTo ts_X12_distanceTo rfl hl.1 rfl (Nat.le_of_ble_eq_true rfl) dL_law_774) (fun H locs hW => ?_)
      refine lv_icmp_ge (tgt := 784) C0.hx C0.hb dL_law_777 (by decide) (fun hc138 => ?_) (fun hc138 => ?_)
      · replace h := (if_pos hc138).symm.trans h
        refine lv_iinc (v := l14 + (1 : Int32)) (lv' := [(14, .int (l14 + (1 : Int32))), (0, .ref (g_st G 5)), (1, .ref (g_ad G (0))), (2, .int (l2)), (3, g_rf G (l3)), (5, g_rf G (l5)), (6, .int (l6)), (7, .int (l7)), (8, .long (l8)), (10, .int (l10)), (11, .int (l11)), (12, .int (l12)), (13, .int (l13)), (18, .int (l18))]) C0.hx C0.hb dL_law_784 hl (k := 12) rfl rfl (by decide) rfl (fun ls hl => ?_)
        refine lv_goto (tgt := 215) C0.hx C0.hb dL_law_787 (by decide) ?_
        have hz := kt215 _ _ _ _ _ _ _ _ _ _ _ _ _ _ _ _ h hW (lv_sub hl [1, 2, 3, 4, 5, 6, 7, 8, 9, 10, 11, 12, 0] rfl)
        exact hz
      · replace h := (if_neg hc138).symm.trans h
        refine lv_iload C0.hx C0.hb dL_law_780 (lv_at hl 12 rfl) ?_
        refine lv_istore (lv' := [(13, .int (l14)), (0, .ref (g_st G 5)), (1, .ref (g_ad G (0))), (2, .int (l2)), (3, g_rf G (l3)), (5, g_rf G (l5)), (6, .int (l6)), (7, .int (l7)), (8, .long (l8)), (10, .int (l10)), (11, .int (l11)), (12, .int (l12)), (14, .int (l14)), (18, .int (l18))]) C0.hx C0.hb dL_law_782 hl (by decide) rfl (fun ls hl => ?_)
        refine lv_iinc (v := l14 + (1 : Int32)) (lv' := [(14, .int (l14 + (1 : Int32))), (13, .int (l14)), (0, .ref (g_st G 5)), (1, .ref (g_ad G (0))), (2, .int (l2)), (3, g_rf G (l3)), (5, g_rf G (l5)), (6, .int (l6)), (7, .int (l7)), (8, .long (l8)), (10, .int (l10)), (11, .int (l11)), (12, .int (l12)), (18, .int (l18))]) C0.hx C0.hb dL_law_784 hl (k := 12) rfl rfl (by decide) rfl (fun ls hl => ?_)
        refine lv_goto (tgt := 215) C0.hx C0.hb dL_law_787 (by decide) ?_
        have hz := kt215 _ _ _ _ _ _ _ _ _ _ _ _ _ _ _ _ h hW (lv_sub hl [2, 3, 4, 5, 6, 7, 8, 9, 10, 11, 12, 1, 0] rfl)
        exact hz
set_option maxRecDepth 100000 in
set_option maxHeartbeats 4000000 in
theorem w_l_L_law_631 {p : Program} {l : Launch} {e : Env} {s : State} {m : MethodId} {args : Array Value} {below : List Frame} {meth : Method} {c : Code} {Q : State → Prop} {G : GL} {o : Nat → Int32} {y0 : MS} {q : Int32 × CS × MS} {k10 : Int32 → CS → MS → Option (Int32 × CS × MS)} {k94 : Int32 → Nat → Nat → Int32 → Int32 → CS → MS → Option (Int32 × CS × MS)} {k215 : Int32 → Nat → Nat → Int32 → Int32 → Int64 → Int32 → Int32 → Int32 → Int32 → Int32 → CS → MS → Option (Int32 × CS × MS)} (hfl : l.stackTraces = false) (hq1 : q.1 = 1) (KR : ∀ (x : CS) (y : MS) (o : Nat → Int32) (pc : Nat) (H : Heap) (locs : List Loc) (ls : Array Slot), h_W G y0 (x, y, o) s.heap H locs → decode cL_law pc = .ok (.ireturn, 1) → W p l e (h_lv 200 y0) s m args below meth c H locs (h_nx y - h_nx y0) (h_sl y - h_sl y0) Q (F0 m pc ls [.int 1])) (C0 : g_X G (List.range 120) p s m args meth c cL_law 22 RL ret) (kt10 : ∀ (l2 : Int32) (x : CS) (y : MS) (H : Heap) (locs : List Loc) (ls : Array Slot), k10 l2 x y = some q → h_W G y0 (x, y, o) s.heap H locs → lv_has ls 22 [(0, .ref (g_st G 5)), (1, .ref (g_ad G (0))), (2, .int (l2))] → W p l e (h_lv 200 y0) s m args below meth c H locs (h_nx y - h_nx y0) (h_sl y - h_sl y0) Q (F0 m 10 ls [])) (kt94 : ∀ (l2 : Int32) (l3 : Nat) (l5 : Nat) (l6 : Int32) (l7 : Int32) (x : CS) (y : MS) (H : Heap) (locs : List Loc) (ls : Array Slot), k94 l2 l3 l5 l6 l7 x y = some q → h_W G y0 (x, y, o) s.heap H locs → lv_has ls 22 [(0, .ref (g_st G 5)), (1, .ref (g_ad G (0))), (2, .int (l2)), (3, g_rf G (l3)), (5, g_rf G (l5)), (6, .int (l6)), (7, .int (l7))] → W p l e (h_lv 200 y0) s m args below meth c H locs (h_nx y - h_nx y0) (h_sl y - h_sl y0) Q (F0 m 94 ls [])) (kt215 : ∀ (l2 : Int32) (l3 : Nat) (l5 : Nat) (l6 : Int32) (l7 : Int32) (l8 : Int64) (l10 : Int32) (l11 : Int32) (l12 : Int32) (l13 : Int32) (l14 : Int32) (x : CS) (y : MS) (H : Heap) (locs : List Loc) (ls : Array Slot), k215 l2 l3 l5 l6 l7 l8 l10 l11 l12 l13 l14 x y = some q → h_W G y0 (x, y, o) s.heap H locs → lv_has ls 22 [(0, .ref (g_st G 5)), (1, .ref (g_ad G (0))), (2, .int (l2)), (3, g_rf G (l3)), (5, g_rf G (l5)), (6, .int (l6)), (7, .int (l7)), (8, .long (l8)), (10, .int (l10)), (11, .int (l11)), (12, .int (l12)), (13, .int (l13)), (14, .int (l14))] → W p l e (h_lv 200 y0) s m args below meth c H locs (h_nx y - h_nx y0) (h_sl y - h_sl y0) Q (F0 m 215 ls [])) : ∀  (l2 : Int32) (l3 : Nat) (l5 : Nat) (l6 : Int32) (l7 : Int32) (l8 : Int64) (l10 : Int32) (l11 : Int32) (l12 : Int32) (l13 : Int32) (l14 : Int32) (l15 : Int32) (s0 : Int32) (s1 : Int32) (x : CS) (y : MS) (H : Heap) (locs : List Loc) (ls : Array Slot), f_l_L_law_631 (g_L G) (g_xs G) k10 k94 k215 l2 l3 l5 l6 l7 l8 l10 l11 l12 l13 l14 l15 s0 s1 x y = some q → h_W G y0 (x, y, o) s.heap H locs → lv_has ls 22 [(0, .ref (g_st G 5)), (1, .ref (g_ad G (0))), (2, .int (l2)), (3, g_rf G (l3)), (5, g_rf G (l5)), (6, .int (l6)), (7, .int (l7)), (8, .long (l8)), (10, .int (l10)), (11, .int (l11)), (12, .int (l12)), (13, .int (l13)), (14, .int (l14)), (15, .int (l15))] → W p l e (h_lv 200 y0) s m args below meth c H locs (h_nx y - h_nx y0) (h_sl y - h_sl y0) Q (F0 m 631 ls [.int (s0), .int (s1)]) := by
  intro l2 l3 l5 l6 l7 l8 l10 l11 l12 l13 l14 l15 s0 s1 x y H locs ls h hW hl
  unfold f_l_L_law_631 at h
  refine lv_icmp_eq (tgt := 636) C0.hx C0.hb dL_law_631 (by decide) (fun hc103 => ?_) (fun hc103 => ?_)
  · replace h := (if_pos hc103).symm.trans h
    refine lv_iload C0.hx C0.hb dL_law_636 (lv_at hl 8 rfl) ?_
    refine lv_if_ne (tgt := 644) C0.hx C0.hb dL_law_638 (by decide) (fun hc104 => ?_) (fun hc104 => ?_)
    · replace h := (if_neg hc104).symm.trans h
      refine lv_aload_n C0.hx C0.hb dL_law_644 rfl (lv_at hl 1 rfl) ?_
      refine lv_iload C0.hx C0.hb dL_law_645 (lv_at hl 12 rfl) ?_
      obtain ⟨q105, hq105, h⟩ := Option.bind_eq_some_iff.mp h
      refine h_kcalli hW (h_krunV (Sx := (x, y, o)) (As := [.int (l14)]) (rest := []) C0 hW (c_X12_distanceTo hq105) rfl ⟨tc_X12_distanceTo, tn_X12, md_X12_distanceTo, by decide⟩ (by omega) tm_L_233 ti_X12_distanceTo ts_X12_distanceTo rfl hl.1 rfl (Nat.le_of_ble_eq_true rfl) dL_law_647) (fun H locs hW => ?_)
      refine lv_istore (lv' := [(18, .int (q105)), (0, .ref (g_st G 5)), (1, .ref (g_ad G (0))), (2, .int (l2)), (3, g_rf G (l3)), (5, g_rf G (l5)), (6, .int (l6)), (7, .int (l7)), (8, .long (l8)), (10, .int (l10)), (11, .int (l11)), (12, .int (l12)), (13, .int (l13)), (14, .int (l14)), (15, .int (l15))]) C0.hx C0.hb dL_law_650 hl (by decide) rfl (fun ls hl => ?_)
      refine lv_aload_n C0.hx C0.hb dL_law_652 rfl (lv_at hl 2 rfl) ?_
      refine lv_iload C0.hx C0.hb dL_law_653 (lv_at hl 13 rfl) ?_
      obtain ⟨q106, hq106, h⟩ := Option.bind_eq_some_iff.mp h
      refine h_kcalli hW (h_krunV (Sx := (x, y, o)) (As := [.int (l14)]) (rest := []) C0 hW (c_X12_stepsTo hq106) rfl ⟨tc_X12_stepsTo, tn_X12, md_X12_stepsTo, by decide⟩ (by omega) tm_L_236 ti_X12_stepsTo ts_X12_stepsTo rfl hl.1 rfl (Nat.le_of_ble_eq_true rfl) dL_law_655) (fun H locs hW => ?_)
      refine lv_istore (lv' := [(19, .int (q106.1)), (18, .int (q105)), (0, .ref (g_st G 5)), (1, .ref (g_ad G (0))), (2, .int (l2)), (3, g_rf G (l3)), (5, g_rf G (l5)), (6, .int (l6)), (7, .int (l7)), (8, .long (l8)), (10, .int (l10)), (11, .int (l11)), (12, .int (l12)), (13, .int (l13)), (14, .int (l14)), (15, .int (l15))]) C0.hx C0.hb dL_law_658 hl (by decide) rfl (fun ls hl => ?_)
      refine lv_iload C0.hx C0.hb dL_law_660 (lv_at hl 0 rfl) ?_
      refine lv_iload C0.hx C0.hb dL_law_662 (lv_at hl 15 rfl) ?_
      refine lv_iload C0.hx C0.hb dL_law_664 (lv_at hl 10 rfl) ?_
      refine h_maxR C0 hW hl.1 (by show 1 ≤ 200; omega) (Nat.le_of_ble_eq_true rfl) tm_L_212 dL_law_666 ?_
      refine lv_icmp_lt (tgt := 712) C0.hx C0.hb dL_law_669 (by decide) (fun hc107 => ?_) (fun hc107 => ?_)
      · replace h := (if_pos hc107).symm.trans h
        refine lv_iconst (v := (0 : Int32)) C0.hx C0.hb dL_law_712 (by decide) ?_
        obtain rfl := Option.some.inj h
        exact h_lret hq1 (KR _ _ _ _ _ _ _ hW dL_law_713)
      · replace h := (if_neg hc107).symm.trans h
        refine lv_iload C0.hx C0.hb dL_law_672 (lv_at hl 0 rfl) ?_
        refine lv_iload C0.hx C0.hb dL_law_674 (lv_at hl 15 rfl) ?_
        refine lv_iload C0.hx C0.hb dL_law_676 (lv_at hl 10 rfl) ?_
        refine lv_iadd C0.hx C0.hb dL_law_678 ?_
        refine lv_icmp_ge (tgt := 712) C0.hx C0.hb dL_law_679 (by decide) (fun hc108 => ?_) (fun hc108 => ?_)
        · replace h := (if_pos hc108).symm.trans h
          refine lv_iconst (v := (0 : Int32)) C0.hx C0.hb dL_law_712 (by decide) ?_
          obtain rfl := Option.some.inj h
          exact h_lret hq1 (KR _ _ _ _ _ _ _ hW dL_law_713)
        · replace h := (if_neg hc108).symm.trans h
          refine lv_iload C0.hx C0.hb dL_law_682 (lv_at hl 1 rfl) ?_
          refine lv_if_lt (tgt := 712) C0.hx C0.hb dL_law_684 (by decide) (fun hc109 => ?_) (fun hc109 => ?_)
          · replace h := (if_pos hc109).symm.trans h
            refine lv_iconst (v := (0 : Int32)) C0.hx C0.hb dL_law_712 (by decide) ?_
            obtain rfl := Option.some.inj h
            exact h_lret hq1 (KR _ _ _ _ _ _ _ hW dL_law_713)
          · replace h := (if_neg hc109).symm.trans h
            refine lv_aload_n C0.hx C0.hb dL_law_687 rfl (lv_at hl 3 rfl) ?_
            refine lv_iload C0.hx C0.hb dL_law_688 (lv_at hl 14 rfl) ?_
            obtain ⟨q110, hq110, h⟩ := Option.bind_eq_some_iff.mp h
            refine h_kcalli hW (h_krunV (Sx := (x, y, o)) (As := [.int (l14)]) (rest := []) C0 hW (c_X12_contourTo hq110) rfl ⟨tc_X12_contourTo, tn_X12, md_X12_contourTo, by decide⟩ (by omega) tm_L_239 ti_X12_contourTo ts_X12_contourTo rfl hl.1 rfl (Nat.le_of_ble_eq_true rfl) dL_law_690) (fun H locs hW => ?_)
            refine lv_if_lt (tgt := 712) C0.hx C0.hb dL_law_693 (by decide) (fun hc111 => ?_) (fun hc111 => ?_)
            · replace h := (if_pos hc111).symm.trans h
              refine lv_iconst (v := (0 : Int32)) C0.hx C0.hb dL_law_712 (by decide) ?_
              obtain rfl := Option.some.inj h
              exact h_lret hq1 (KR _ _ _ _ _ _ _ hW dL_law_713)
            · replace h := (if_neg hc111).symm.trans h
              refine lv_aload_n C0.hx C0.hb dL_law_696 rfl (lv_at hl 3 rfl) ?_
              refine lv_iload C0.hx C0.hb dL_law_697 (lv_at hl 14 rfl) ?_
              obtain ⟨q112, hq112, h⟩ := Option.bind_eq_some_iff.mp h
              refine h_kcalli hW (h_krunV (Sx := (x, y, o)) (As := [.int (l14)]) (rest := []) C0 hW (c_X12_contourTo hq112) rfl ⟨tc_X12_contourTo, tn_X12, md_X12_contourTo, by decide⟩ (by omega) tm_L_239 ti_X12_contourTo ts_X12_contourTo rfl hl.1 rfl (Nat.le_of_ble_eq_true rfl) dL_law_699) (fun H locs hW => ?_)
              refine lv_iload C0.hx C0.hb dL_law_702 (lv_at hl 15 rfl) ?_
              refine lv_iload C0.hx C0.hb dL_law_704 (lv_at hl 10 rfl) ?_
              refine lv_iadd C0.hx C0.hb dL_law_706 ?_
              refine lv_iconst (v := (1 : Int32)) C0.hx C0.hb dL_law_707 (by decide) ?_
              refine lv_isub C0.hx C0.hb dL_law_708 ?_
              refine lv_icmp_le (tgt := 714) C0.hx C0.hb dL_law_709 (by decide) (fun hc113 => ?_) (fun hc113 => ?_)
              · replace h := (if_pos hc113).symm.trans h
                refine lv_aload_n C0.hx C0.hb dL_law_714 rfl (lv_at hl 3 rfl) ?_
                refine lv_iload C0.hx C0.hb dL_law_715 (lv_at hl 14 rfl) ?_
                obtain ⟨q114, hq114, h⟩ := Option.bind_eq_some_iff.mp h
                refine h_kcalli hW (h_krunV (Sx := (x, y, o)) (As := [.int (l14)]) (rest := []) C0 hW (c_X12_isPruned hq114) rfl ⟨tc_X12_isPruned, tn_X12, md_X12_isPruned, by decide⟩ (by omega) tm_L_227 ti_X12_isPruned ts_X12_isPruned rfl hl.1 rfl (Nat.le_of_ble_eq_true rfl) dL_law_717) (fun H locs hW => ?_)
                refine lv_if_eq (tgt := 726) C0.hx C0.hb dL_law_720 (by decide) (fun hc115 => ?_) (fun hc115 => ?_)
                · replace h := (if_pos hc115).symm.trans h
                  refine lv_iload C0.hx C0.hb dL_law_726 (lv_at hl 1 rfl) ?_
                  refine lv_aload_n C0.hx C0.hb dL_law_728 rfl (lv_at hl 3 rfl) ?_
                  refine lv_iload C0.hx C0.hb dL_law_729 (lv_at hl 11 rfl) ?_
                  obtain ⟨q116, hq116, h⟩ := Option.bind_eq_some_iff.mp h
                  refine h_kcalli hW (h_krunV (Sx := (x, y, o)) (As := [.int (l11)]) (rest := [.int (q105)]) C0 hW (c_X12_distanceTo hq116) rfl ⟨tc_X12_distanceTo, tn_X12, md_X12_distanceTo, by decide⟩ (by omega) tm_L_233 ti_X12_distanceTo ts_X12_distanceTo rfl hl.1 rfl (Nat.le_of_ble_eq_true rfl) dL_law_731) (fun H locs hW => ?_)
                  refine lv_icmp_lt (tgt := 755) C0.hx C0.hb dL_law_734 (by decide) (fun hc117 => ?_) (fun hc117 => ?_)
                  · replace h := (if_pos hc117).symm.trans h
                    refine lv_iconst (v := (0 : Int32)) C0.hx C0.hb dL_law_755 (by decide) ?_
                    obtain rfl := Option.some.inj h
                    exact h_lret hq1 (KR _ _ _ _ _ _ _ hW dL_law_756)
                  · replace h := (if_neg hc117).symm.trans h
                    refine lv_iload C0.hx C0.hb dL_law_737 (lv_at hl 1 rfl) ?_
                    refine lv_aload_n C0.hx C0.hb dL_law_739 rfl (lv_at hl 3 rfl) ?_
                    refine lv_iload C0.hx C0.hb dL_law_740 (lv_at hl 11 rfl) ?_
                    obtain ⟨q118, hq118, h⟩ := Option.bind_eq_some_iff.mp h
                    refine h_kcalli hW (h_krunV (Sx := (x, y, o)) (As := [.int (l11)]) (rest := [.int (q105)]) C0 hW (c_X12_distanceTo hq118) rfl ⟨tc_X12_distanceTo, tn_X12, md_X12_distanceTo, by decide⟩ (by omega) tm_L_233 ti_X12_distanceTo ts_X12_distanceTo rfl hl.1 rfl (Nat.le_of_ble_eq_true rfl) dL_law_742) (fun H locs hW => ?_)
                    refine lv_icmp_ne (tgt := 757) C0.hx C0.hb dL_law_745 (by decide) (fun hc119 => ?_) (fun hc119 => ?_)
                    · replace h := (if_neg hc119).symm.trans h
                      have hz := w_l_L_law_757 (l := l) (e := e) (below := below) hfl hq1 KR C0 kt10 kt94 kt215 _ _ _ _ _ _ _ _ _ _ _ _ _ _ _ _ _ h hW (lv_sub hl [2, 3, 4, 5, 6, 7, 8, 9, 10, 11, 12, 13, 14, 1] rfl)
                      exact hz
                    · replace h := (if_pos hc119).symm.trans h
                      refine lv_iload C0.hx C0.hb dL_law_748 (lv_at hl 14 rfl) ?_
                      refine lv_iload C0.hx C0.hb dL_law_750 (lv_at hl 11 rfl) ?_
                      refine lv_icmp_ge (tgt := 757) C0.hx C0.hb dL_law_752 (by decide) (fun hc120 => ?_) (fun hc120 => ?_)
                      · replace h := (if_pos hc120).symm.trans h
                        have hz := w_l_L_law_757 (l := l) (e := e) (below := below) hfl hq1 KR C0 kt10 kt94 kt215 _ _ _ _ _ _ _ _ _ _ _ _ _ _ _ _ _ h hW (lv_sub hl [2, 3, 4, 5, 6, 7, 8, 9, 10, 11, 12, 13, 14, 1] rfl)
                        exact hz
                      · replace h := (if_neg hc120).symm.trans h
                        refine lv_iconst (v := (0 : Int32)) C0.hx C0.hb dL_law_755 (by decide) ?_
                        obtain rfl := Option.some.inj h
                        exact h_lret hq1 (KR _ _ _ _ _ _ _ hW dL_law_756)
                · replace h := (if_neg hc115).symm.trans h
                  refine lv_goto (tgt := 784) C0.hx C0.hb dL_law_723 (by decide) ?_
                  refine lv_iinc (v := l14 + (1 : Int32)) (lv' := [(14, .int (l14 + (1 : Int32))), (19, .int (q106.1)), (18, .int (q105)), (0, .ref (g_st G 5)), (1, .ref (g_ad G (0))), (2, .int (l2)), (3, g_rf G (l3)), (5, g_rf G (l5)), (6, .int (l6)), (7, .int (l7)), (8, .long (l8)), (10, .int (l10)), (11, .int (l11)), (12, .int (l12)), (13, .int (l13)), (15, .int (l15))]) C0.hx C0.hb dL_law_784 hl (k := 14) rfl rfl (by decide) rfl (fun ls hl => ?_)
                  refine lv_goto (tgt := 215) C0.hx C0.hb dL_law_787 (by decide) ?_
                  have hz := kt215 _ _ _ _ _ _ _ _ _ _ _ _ _ _ _ _ h hW (lv_sub hl [3, 4, 5, 6, 7, 8, 9, 10, 11, 12, 13, 14, 0] rfl)
                  exact hz
              · replace h := (if_neg hc113).symm.trans h
                refine lv_iconst (v := (0 : Int32)) C0.hx C0.hb dL_law_712 (by decide) ?_
                obtain rfl := Option.some.inj h
                exact h_lret hq1 (KR _ _ _ _ _ _ _ hW dL_law_713)
    · replace h := (if_pos hc104).symm.trans h
      refine lv_goto (tgt := 784) C0.hx C0.hb dL_law_641 (by decide) ?_
      refine lv_iinc (v := l14 + (1 : Int32)) (lv' := [(14, .int (l14 + (1 : Int32))), (0, .ref (g_st G 5)), (1, .ref (g_ad G (0))), (2, .int (l2)), (3, g_rf G (l3)), (5, g_rf G (l5)), (6, .int (l6)), (7, .int (l7)), (8, .long (l8)), (10, .int (l10)), (11, .int (l11)), (12, .int (l12)), (13, .int (l13)), (15, .int (l15))]) C0.hx C0.hb dL_law_784 hl (k := 12) rfl rfl (by decide) rfl (fun ls hl => ?_)
      refine lv_goto (tgt := 215) C0.hx C0.hb dL_law_787 (by decide) ?_
      have hz := kt215 _ _ _ _ _ _ _ _ _ _ _ _ _ _ _ _ h hW (lv_sub hl [1, 2, 3, 4, 5, 6, 7, 8, 9, 10, 11, 12, 0] rfl)
      exact hz
  · replace h := (if_neg hc103).symm.trans h
    refine lv_iconst (v := (0 : Int32)) C0.hx C0.hb dL_law_634 (by decide) ?_
    obtain rfl := Option.some.inj h
    exact h_lret hq1 (KR _ _ _ _ _ _ _ hW dL_law_635)
set_option maxRecDepth 100000 in
set_option maxHeartbeats 4000000 in
theorem w_l_L_law_630 {p : Program} {l : Launch} {e : Env} {s : State} {m : MethodId} {args : Array Value} {below : List Frame} {meth : Method} {c : Code} {Q : State → Prop} {G : GL} {o : Nat → Int32} {y0 : MS} {q : Int32 × CS × MS} {k10 : Int32 → CS → MS → Option (Int32 × CS × MS)} {k94 : Int32 → Nat → Nat → Int32 → Int32 → CS → MS → Option (Int32 × CS × MS)} {k215 : Int32 → Nat → Nat → Int32 → Int32 → Int64 → Int32 → Int32 → Int32 → Int32 → Int32 → CS → MS → Option (Int32 × CS × MS)} (hfl : l.stackTraces = false) (hq1 : q.1 = 1) (KR : ∀ (x : CS) (y : MS) (o : Nat → Int32) (pc : Nat) (H : Heap) (locs : List Loc) (ls : Array Slot), h_W G y0 (x, y, o) s.heap H locs → decode cL_law pc = .ok (.ireturn, 1) → W p l e (h_lv 200 y0) s m args below meth c H locs (h_nx y - h_nx y0) (h_sl y - h_sl y0) Q (F0 m pc ls [.int 1])) (C0 : g_X G (List.range 120) p s m args meth c cL_law 22 RL ret) (kt10 : ∀ (l2 : Int32) (x : CS) (y : MS) (H : Heap) (locs : List Loc) (ls : Array Slot), k10 l2 x y = some q → h_W G y0 (x, y, o) s.heap H locs → lv_has ls 22 [(0, .ref (g_st G 5)), (1, .ref (g_ad G (0))), (2, .int (l2))] → W p l e (h_lv 200 y0) s m args below meth c H locs (h_nx y - h_nx y0) (h_sl y - h_sl y0) Q (F0 m 10 ls [])) (kt94 : ∀ (l2 : Int32) (l3 : Nat) (l5 : Nat) (l6 : Int32) (l7 : Int32) (x : CS) (y : MS) (H : Heap) (locs : List Loc) (ls : Array Slot), k94 l2 l3 l5 l6 l7 x y = some q → h_W G y0 (x, y, o) s.heap H locs → lv_has ls 22 [(0, .ref (g_st G 5)), (1, .ref (g_ad G (0))), (2, .int (l2)), (3, g_rf G (l3)), (5, g_rf G (l5)), (6, .int (l6)), (7, .int (l7))] → W p l e (h_lv 200 y0) s m args below meth c H locs (h_nx y - h_nx y0) (h_sl y - h_sl y0) Q (F0 m 94 ls [])) (kt215 : ∀ (l2 : Int32) (l3 : Nat) (l5 : Nat) (l6 : Int32) (l7 : Int32) (l8 : Int64) (l10 : Int32) (l11 : Int32) (l12 : Int32) (l13 : Int32) (l14 : Int32) (x : CS) (y : MS) (H : Heap) (locs : List Loc) (ls : Array Slot), k215 l2 l3 l5 l6 l7 l8 l10 l11 l12 l13 l14 x y = some q → h_W G y0 (x, y, o) s.heap H locs → lv_has ls 22 [(0, .ref (g_st G 5)), (1, .ref (g_ad G (0))), (2, .int (l2)), (3, g_rf G (l3)), (5, g_rf G (l5)), (6, .int (l6)), (7, .int (l7)), (8, .long (l8)), (10, .int (l10)), (11, .int (l11)), (12, .int (l12)), (13, .int (l13)), (14, .int (l14))] → W p l e (h_lv 200 y0) s m args below meth c H locs (h_nx y - h_nx y0) (h_sl y - h_sl y0) Q (F0 m 215 ls [])) : ∀  (l2 : Int32) (l3 : Nat) (l5 : Nat) (l6 : Int32) (l7 : Int32) (l8 : Int64) (l10 : Int32) (l11 : Int32) (l12 : Int32) (l13 : Int32) (l14 : Int32) (l15 : Int32) (s0 : Int32) (x : CS) (y : MS) (H : Heap) (locs : List Loc) (ls : Array Slot), f_l_L_law_630 (g_L G) (g_xs G) k10 k94 k215 l2 l3 l5 l6 l7 l8 l10 l11 l12 l13 l14 l15 s0 x y = some q → h_W G y0 (x, y, o) s.heap H locs → lv_has ls 22 [(0, .ref (g_st G 5)), (1, .ref (g_ad G (0))), (2, .int (l2)), (3, g_rf G (l3)), (5, g_rf G (l5)), (6, .int (l6)), (7, .int (l7)), (8, .long (l8)), (10, .int (l10)), (11, .int (l11)), (12, .int (l12)), (13, .int (l13)), (14, .int (l14)), (15, .int (l15))] → W p l e (h_lv 200 y0) s m args below meth c H locs (h_nx y - h_nx y0) (h_sl y - h_sl y0) Q (F0 m 630 ls [.int (s0)]) := by
  intro l2 l3 l5 l6 l7 l8 l10 l11 l12 l13 l14 l15 s0 x y H locs ls h hW hl
  unfold f_l_L_law_630 at h
  refine lv_iconst (v := (0 : Int32)) C0.hx C0.hb dL_law_630 (by decide) ?_
  have hz := w_l_L_law_631 (l := l) (e := e) (below := below) hfl hq1 KR C0 kt10 kt94 kt215 _ _ _ _ _ _ _ _ _ _ _ _ _ _ _ _ _ _ _ h hW (lv_sub hl [0, 1, 2, 3, 4, 5, 6, 7, 8, 9, 10, 11, 12, 13] rfl)
  exact hz
set_option maxRecDepth 100000 in
set_option maxHeartbeats 4000000 in
theorem w_l_L_law_563 {p : Program} {l : Launch} {e : Env} {s : State} {m : MethodId} {args : Array Value} {below : List Frame} {meth : Method} {c : Code} {Q : State → Prop} {G : GL} {o : Nat → Int32} {y0 : MS} {q : Int32 × CS × MS} {k10 : Int32 → CS → MS → Option (Int32 × CS × MS)} {k94 : Int32 → Nat → Nat → Int32 → Int32 → CS → MS → Option (Int32 × CS × MS)} {k215 : Int32 → Nat → Nat → Int32 → Int32 → Int64 → Int32 → Int32 → Int32 → Int32 → Int32 → CS → MS → Option (Int32 × CS × MS)} {k334 : Int32 → Nat → Nat → Int32 → Int32 → Int64 → Int32 → Int32 → Int32 → Int32 → Int32 → Int32 → Int32 → Int32 → Int32 → CS → MS → Option (Int32 × CS × MS)} (hfl : l.stackTraces = false) (hq1 : q.1 = 1) (KR : ∀ (x : CS) (y : MS) (o : Nat → Int32) (pc : Nat) (H : Heap) (locs : List Loc) (ls : Array Slot), h_W G y0 (x, y, o) s.heap H locs → decode cL_law pc = .ok (.ireturn, 1) → W p l e (h_lv 200 y0) s m args below meth c H locs (h_nx y - h_nx y0) (h_sl y - h_sl y0) Q (F0 m pc ls [.int 1])) (C0 : g_X G (List.range 120) p s m args meth c cL_law 22 RL ret) (kt10 : ∀ (l2 : Int32) (x : CS) (y : MS) (H : Heap) (locs : List Loc) (ls : Array Slot), k10 l2 x y = some q → h_W G y0 (x, y, o) s.heap H locs → lv_has ls 22 [(0, .ref (g_st G 5)), (1, .ref (g_ad G (0))), (2, .int (l2))] → W p l e (h_lv 200 y0) s m args below meth c H locs (h_nx y - h_nx y0) (h_sl y - h_sl y0) Q (F0 m 10 ls [])) (kt94 : ∀ (l2 : Int32) (l3 : Nat) (l5 : Nat) (l6 : Int32) (l7 : Int32) (x : CS) (y : MS) (H : Heap) (locs : List Loc) (ls : Array Slot), k94 l2 l3 l5 l6 l7 x y = some q → h_W G y0 (x, y, o) s.heap H locs → lv_has ls 22 [(0, .ref (g_st G 5)), (1, .ref (g_ad G (0))), (2, .int (l2)), (3, g_rf G (l3)), (5, g_rf G (l5)), (6, .int (l6)), (7, .int (l7))] → W p l e (h_lv 200 y0) s m args below meth c H locs (h_nx y - h_nx y0) (h_sl y - h_sl y0) Q (F0 m 94 ls [])) (kt215 : ∀ (l2 : Int32) (l3 : Nat) (l5 : Nat) (l6 : Int32) (l7 : Int32) (l8 : Int64) (l10 : Int32) (l11 : Int32) (l12 : Int32) (l13 : Int32) (l14 : Int32) (x : CS) (y : MS) (H : Heap) (locs : List Loc) (ls : Array Slot), k215 l2 l3 l5 l6 l7 l8 l10 l11 l12 l13 l14 x y = some q → h_W G y0 (x, y, o) s.heap H locs → lv_has ls 22 [(0, .ref (g_st G 5)), (1, .ref (g_ad G (0))), (2, .int (l2)), (3, g_rf G (l3)), (5, g_rf G (l5)), (6, .int (l6)), (7, .int (l7)), (8, .long (l8)), (10, .int (l10)), (11, .int (l11)), (12, .int (l12)), (13, .int (l13)), (14, .int (l14))] → W p l e (h_lv 200 y0) s m args below meth c H locs (h_nx y - h_nx y0) (h_sl y - h_sl y0) Q (F0 m 215 ls [])) (kt334 : ∀ (l2 : Int32) (l3 : Nat) (l5 : Nat) (l6 : Int32) (l7 : Int32) (l8 : Int64) (l10 : Int32) (l11 : Int32) (l12 : Int32) (l13 : Int32) (l14 : Int32) (l15 : Int32) (l16 : Int32) (l17 : Int32) (l18 : Int32) (x : CS) (y : MS) (H : Heap) (locs : List Loc) (ls : Array Slot), k334 l2 l3 l5 l6 l7 l8 l10 l11 l12 l13 l14 l15 l16 l17 l18 x y = some q → h_W G y0 (x, y, o) s.heap H locs → lv_has ls 22 [(0, .ref (g_st G 5)), (1, .ref (g_ad G (0))), (2, .int (l2)), (3, g_rf G (l3)), (5, g_rf G (l5)), (6, .int (l6)), (7, .int (l7)), (8, .long (l8)), (10, .int (l10)), (11, .int (l11)), (12, .int (l12)), (13, .int (l13)), (14, .int (l14)), (15, .int (l15)), (16, .int (l16)), (17, .int (l17)), (18, .int (l18))] → W p l e (h_lv 200 y0) s m args below meth c H locs (h_nx y - h_nx y0) (h_sl y - h_sl y0) Q (F0 m 334 ls [])) : ∀  (l2 : Int32) (l3 : Nat) (l5 : Nat) (l6 : Int32) (l7 : Int32) (l8 : Int64) (l10 : Int32) (l11 : Int32) (l12 : Int32) (l13 : Int32) (l14 : Int32) (l15 : Int32) (l16 : Int32) (l17 : Int32) (l18 : Int32) (x : CS) (y : MS) (H : Heap) (locs : List Loc) (ls : Array Slot), f_l_L_law_563 (g_L G) (g_xs G) k10 k94 k215 k334 l2 l3 l5 l6 l7 l8 l10 l11 l12 l13 l14 l15 l16 l17 l18 x y = some q → h_W G y0 (x, y, o) s.heap H locs → lv_has ls 22 [(0, .ref (g_st G 5)), (1, .ref (g_ad G (0))), (2, .int (l2)), (3, g_rf G (l3)), (5, g_rf G (l5)), (6, .int (l6)), (7, .int (l7)), (8, .long (l8)), (10, .int (l10)), (11, .int (l11)), (12, .int (l12)), (13, .int (l13)), (14, .int (l14)), (15, .int (l15)), (16, .int (l16)), (17, .int (l17)), (18, .int (l18))] → W p l e (h_lv 200 y0) s m args below meth c H locs (h_nx y - h_nx y0) (h_sl y - h_sl y0) Q (F0 m 563 ls []) := by
  intro l2 l3 l5 l6 l7 l8 l10 l11 l12 l13 l14 l15 l16 l17 l18 x y H locs ls h hW hl
  unfold f_l_L_law_563 at h
  refine lv_iload C0.hx C0.hb dL_law_563 (lv_at hl 15 rfl) ?_
  refine lv_iload C0.hx C0.hb dL_law_565 (lv_at hl 16 rfl) ?_
  refine lv_iload C0.hx C0.hb dL_law_567 (lv_at hl 12 rfl) ?_
  refine lv_icmp_ge (tgt := 596) C0.hx C0.hb dL_law_569 (by decide) (fun hc174 => ?_) (fun hc174 => ?_)
  · replace h := (if_pos hc174).symm.trans h
    refine lv_iconst (v := (0 : Int32)) C0.hx C0.hb dL_law_596 (by decide) ?_
    refine lv_ior C0.hx C0.hb dL_law_597 ?_
    refine lv_istore (lv' := [(17, .int (l17 ||| (0 : Int32))), (0, .ref (g_st G 5)), (1, .ref (g_ad G (0))), (2, .int (l2)), (3, g_rf G (l3)), (5, g_rf G (l5)), (6, .int (l6)), (7, .int (l7)), (8, .long (l8)), (10, .int (l10)), (11, .int (l11)), (12, .int (l12)), (13, .int (l13)), (14, .int (l14)), (15, .int (l15)), (16, .int (l16)), (18, .int (l18))]) C0.hx C0.hb dL_law_598 hl (by decide) rfl (fun ls hl => ?_)
    refine lv_iinc (v := l18 + (1 : Int32)) (lv' := [(18, .int (l18 + (1 : Int32))), (17, .int (l17 ||| (0 : Int32))), (0, .ref (g_st G 5)), (1, .ref (g_ad G (0))), (2, .int (l2)), (3, g_rf G (l3)), (5, g_rf G (l5)), (6, .int (l6)), (7, .int (l7)), (8, .long (l8)), (10, .int (l10)), (11, .int (l11)), (12, .int (l12)), (13, .int (l13)), (14, .int (l14)), (15, .int (l15)), (16, .int (l16))]) C0.hx C0.hb dL_law_600 hl (k := 16) rfl rfl (by decide) rfl (fun ls hl => ?_)
    refine lv_goto (tgt := 334) C0.hx C0.hb dL_law_603 (by decide) ?_
    have hz := kt334 _ _ _ _ _ _ _ _ _ _ _ _ _ _ _ _ _ _ _ _ h hW (lv_sub hl [2, 3, 4, 5, 6, 7, 8, 9, 10, 11, 12, 13, 14, 15, 16, 1, 0] rfl)
    exact hz
  · replace h := (if_neg hc174).symm.trans h
    refine lv_aload_n C0.hx C0.hb dL_law_572 rfl (lv_at hl 1 rfl) ?_
    refine lv_iload C0.hx C0.hb dL_law_573 (lv_at hl 16 rfl) ?_
    obtain ⟨q175, hq175, h⟩ := Option.bind_eq_some_iff.mp h
    refine h_kcalli hW (h_krunV (Sx := (x, y, o)) (As := [.int (l18)]) (rest := [.int (l17)]) C0 hW (c_X12_isPruned hq175) rfl ⟨tc_X12_isPruned, tn_X12, md_X12_isPruned, by decide⟩ (by omega) tm_L_227 ti_X12_isPruned ts_X12_isPruned rfl hl.1 rfl (Nat.le_of_ble_eq_true rfl) dL_law_575) (fun H locs hW => ?_)
    refine lv_if_ne (tgt := 596) C0.hx C0.hb dL_law_578 (by decide) (fun hc176 => ?_) (fun hc176 => ?_)
    · replace h := (if_neg hc176).symm.trans h
      refine lv_iconst (v := (0 : Int32)) C0.hx C0.hb dL_law_596 (by decide) ?_
      refine lv_ior C0.hx C0.hb dL_law_597 ?_
      refine lv_istore (lv' := [(17, .int (l17 ||| (0 : Int32))), (0, .ref (g_st G 5)), (1, .ref (g_ad G (0))), (2, .int (l2)), (3, g_rf G (l3)), (5, g_rf G (l5)), (6, .int (l6)), (7, .int (l7)), (8, .long (l8)), (10, .int (l10)), (11, .int (l11)), (12, .int (l12)), (13, .int (l13)), (14, .int (l14)), (15, .int (l15)), (16, .int (l16)), (18, .int (l18))]) C0.hx C0.hb dL_law_598 hl (by decide) rfl (fun ls hl => ?_)
      refine lv_iinc (v := l18 + (1 : Int32)) (lv' := [(18, .int (l18 + (1 : Int32))), (17, .int (l17 ||| (0 : Int32))), (0, .ref (g_st G 5)), (1, .ref (g_ad G (0))), (2, .int (l2)), (3, g_rf G (l3)), (5, g_rf G (l5)), (6, .int (l6)), (7, .int (l7)), (8, .long (l8)), (10, .int (l10)), (11, .int (l11)), (12, .int (l12)), (13, .int (l13)), (14, .int (l14)), (15, .int (l15)), (16, .int (l16))]) C0.hx C0.hb dL_law_600 hl (k := 16) rfl rfl (by decide) rfl (fun ls hl => ?_)
      refine lv_goto (tgt := 334) C0.hx C0.hb dL_law_603 (by decide) ?_
      have hz := kt334 _ _ _ _ _ _ _ _ _ _ _ _ _ _ _ _ _ _ _ _ h hW (lv_sub hl [2, 3, 4, 5, 6, 7, 8, 9, 10, 11, 12, 13, 14, 15, 16, 1, 0] rfl)
      exact hz
    · replace h := (if_pos hc176).symm.trans h
      refine lv_aload_n C0.hx C0.hb dL_law_581 rfl (lv_at hl 1 rfl) ?_
      refine lv_iload C0.hx C0.hb dL_law_582 (lv_at hl 12 rfl) ?_
      refine lv_iload C0.hx C0.hb dL_law_584 (lv_at hl 16 rfl) ?_
      obtain ⟨q177, hq177, h⟩ := Option.bind_eq_some_iff.mp h
      refine h_kcalli hW (h_krunV (Sx := (x, y, o)) (As := [.int (l14), .int (l18)]) (rest := [.int (l17)]) C0 hW (c_X12_areNear hq177) rfl ⟨tc_X12_areNear, tn_X12, md_X12_areNear, by decide⟩ (by omega) tm_L_223 ti_X12_areNear ts_X12_areNear rfl hl.1 rfl (Nat.le_of_ble_eq_true rfl) dL_law_586) (fun H locs hW => ?_)
      refine lv_if_eq (tgt := 596) C0.hx C0.hb dL_law_589 (by decide) (fun hc178 => ?_) (fun hc178 => ?_)
      · replace h := (if_pos hc178).symm.trans h
        refine lv_iconst (v := (0 : Int32)) C0.hx C0.hb dL_law_596 (by decide) ?_
        refine lv_ior C0.hx C0.hb dL_law_597 ?_
        refine lv_istore (lv' := [(17, .int (l17 ||| (0 : Int32))), (0, .ref (g_st G 5)), (1, .ref (g_ad G (0))), (2, .int (l2)), (3, g_rf G (l3)), (5, g_rf G (l5)), (6, .int (l6)), (7, .int (l7)), (8, .long (l8)), (10, .int (l10)), (11, .int (l11)), (12, .int (l12)), (13, .int (l13)), (14, .int (l14)), (15, .int (l15)), (16, .int (l16)), (18, .int (l18))]) C0.hx C0.hb dL_law_598 hl (by decide) rfl (fun ls hl => ?_)
        refine lv_iinc (v := l18 + (1 : Int32)) (lv' := [(18, .int (l18 + (1 : Int32))), (17, .int (l17 ||| (0 : Int32))), (0, .ref (g_st G 5)), (1, .ref (g_ad G (0))), (2, .int (l2)), (3, g_rf G (l3)), (5, g_rf G (l5)), (6, .int (l6)), (7, .int (l7)), (8, .long (l8)), (10, .int (l10)), (11, .int (l11)), (12, .int (l12)), (13, .int (l13)), (14, .int (l14)), (15, .int (l15)), (16, .int (l16))]) C0.hx C0.hb dL_law_600 hl (k := 16) rfl rfl (by decide) rfl (fun ls hl => ?_)
        refine lv_goto (tgt := 334) C0.hx C0.hb dL_law_603 (by decide) ?_
        have hz := kt334 _ _ _ _ _ _ _ _ _ _ _ _ _ _ _ _ _ _ _ _ h hW (lv_sub hl [2, 3, 4, 5, 6, 7, 8, 9, 10, 11, 12, 13, 14, 15, 16, 1, 0] rfl)
        exact hz
      · replace h := (if_neg hc178).symm.trans h
        refine lv_iconst (v := (1 : Int32)) C0.hx C0.hb dL_law_592 (by decide) ?_
        refine lv_goto (tgt := 597) C0.hx C0.hb dL_law_593 (by decide) ?_
        refine lv_ior C0.hx C0.hb dL_law_597 ?_
        refine lv_istore (lv' := [(17, .int (l17 ||| (1 : Int32))), (0, .ref (g_st G 5)), (1, .ref (g_ad G (0))), (2, .int (l2)), (3, g_rf G (l3)), (5, g_rf G (l5)), (6, .int (l6)), (7, .int (l7)), (8, .long (l8)), (10, .int (l10)), (11, .int (l11)), (12, .int (l12)), (13, .int (l13)), (14, .int (l14)), (15, .int (l15)), (16, .int (l16)), (18, .int (l18))]) C0.hx C0.hb dL_law_598 hl (by decide) rfl (fun ls hl => ?_)
        refine lv_iinc (v := l18 + (1 : Int32)) (lv' := [(18, .int (l18 + (1 : Int32))), (17, .int (l17 ||| (1 : Int32))), (0, .ref (g_st G 5)), (1, .ref (g_ad G (0))), (2, .int (l2)), (3, g_rf G (l3)), (5, g_rf G (l5)), (6, .int (l6)), (7, .int (l7)), (8, .long (l8)), (10, .int (l10)), (11, .int (l11)), (12, .int (l12)), (13, .int (l13)), (14, .int (l14)), (15, .int (l15)), (16, .int (l16))]) C0.hx C0.hb dL_law_600 hl (k := 16) rfl rfl (by decide) rfl (fun ls hl => ?_)
        refine lv_goto (tgt := 334) C0.hx C0.hb dL_law_603 (by decide) ?_
        have hz := kt334 _ _ _ _ _ _ _ _ _ _ _ _ _ _ _ _ _ _ _ _ h hW (lv_sub hl [2, 3, 4, 5, 6, 7, 8, 9, 10, 11, 12, 13, 14, 15, 16, 1, 0] rfl)
        exact hz
set_option maxRecDepth 100000 in
set_option maxHeartbeats 4000000 in
theorem w_l_L_law_510 {p : Program} {l : Launch} {e : Env} {s : State} {m : MethodId} {args : Array Value} {below : List Frame} {meth : Method} {c : Code} {Q : State → Prop} {G : GL} {o : Nat → Int32} {y0 : MS} {q : Int32 × CS × MS} {k10 : Int32 → CS → MS → Option (Int32 × CS × MS)} {k94 : Int32 → Nat → Nat → Int32 → Int32 → CS → MS → Option (Int32 × CS × MS)} {k215 : Int32 → Nat → Nat → Int32 → Int32 → Int64 → Int32 → Int32 → Int32 → Int32 → Int32 → CS → MS → Option (Int32 × CS × MS)} {k334 : Int32 → Nat → Nat → Int32 → Int32 → Int64 → Int32 → Int32 → Int32 → Int32 → Int32 → Int32 → Int32 → Int32 → Int32 → CS → MS → Option (Int32 × CS × MS)} (hfl : l.stackTraces = false) (hq1 : q.1 = 1) (KR : ∀ (x : CS) (y : MS) (o : Nat → Int32) (pc : Nat) (H : Heap) (locs : List Loc) (ls : Array Slot), h_W G y0 (x, y, o) s.heap H locs → decode cL_law pc = .ok (.ireturn, 1) → W p l e (h_lv 200 y0) s m args below meth c H locs (h_nx y - h_nx y0) (h_sl y - h_sl y0) Q (F0 m pc ls [.int 1])) (C0 : g_X G (List.range 120) p s m args meth c cL_law 22 RL ret) (kt10 : ∀ (l2 : Int32) (x : CS) (y : MS) (H : Heap) (locs : List Loc) (ls : Array Slot), k10 l2 x y = some q → h_W G y0 (x, y, o) s.heap H locs → lv_has ls 22 [(0, .ref (g_st G 5)), (1, .ref (g_ad G (0))), (2, .int (l2))] → W p l e (h_lv 200 y0) s m args below meth c H locs (h_nx y - h_nx y0) (h_sl y - h_sl y0) Q (F0 m 10 ls [])) (kt94 : ∀ (l2 : Int32) (l3 : Nat) (l5 : Nat) (l6 : Int32) (l7 : Int32) (x : CS) (y : MS) (H : Heap) (locs : List Loc) (ls : Array Slot), k94 l2 l3 l5 l6 l7 x y = some q → h_W G y0 (x, y, o) s.heap H locs → lv_has ls 22 [(0, .ref (g_st G 5)), (1, .ref (g_ad G (0))), (2, .int (l2)), (3, g_rf G (l3)), (5, g_rf G (l5)), (6, .int (l6)), (7, .int (l7))] → W p l e (h_lv 200 y0) s m args below meth c H locs (h_nx y - h_nx y0) (h_sl y - h_sl y0) Q (F0 m 94 ls [])) (kt215 : ∀ (l2 : Int32) (l3 : Nat) (l5 : Nat) (l6 : Int32) (l7 : Int32) (l8 : Int64) (l10 : Int32) (l11 : Int32) (l12 : Int32) (l13 : Int32) (l14 : Int32) (x : CS) (y : MS) (H : Heap) (locs : List Loc) (ls : Array Slot), k215 l2 l3 l5 l6 l7 l8 l10 l11 l12 l13 l14 x y = some q → h_W G y0 (x, y, o) s.heap H locs → lv_has ls 22 [(0, .ref (g_st G 5)), (1, .ref (g_ad G (0))), (2, .int (l2)), (3, g_rf G (l3)), (5, g_rf G (l5)), (6, .int (l6)), (7, .int (l7)), (8, .long (l8)), (10, .int (l10)), (11, .int (l11)), (12, .int (l12)), (13, .int (l13)), (14, .int (l14))] → W p l e (h_lv 200 y0) s m args below meth c H locs (h_nx y - h_nx y0) (h_sl y - h_sl y0) Q (F0 m 215 ls [])) (kt334 : ∀ (l2 : Int32) (l3 : Nat) (l5 : Nat) (l6 : Int32) (l7 : Int32) (l8 : Int64) (l10 : Int32) (l11 : Int32) (l12 : Int32) (l13 : Int32) (l14 : Int32) (l15 : Int32) (l16 : Int32) (l17 : Int32) (l18 : Int32) (x : CS) (y : MS) (H : Heap) (locs : List Loc) (ls : Array Slot), k334 l2 l3 l5 l6 l7 l8 l10 l11 l12 l13 l14 l15 l16 l17 l18 x y = some q → h_W G y0 (x, y, o) s.heap H locs → lv_has ls 22 [(0, .ref (g_st G 5)), (1, .ref (g_ad G (0))), (2, .int (l2)), (3, g_rf G (l3)), (5, g_rf G (l5)), (6, .int (l6)), (7, .int (l7)), (8, .long (l8)), (10, .int (l10)), (11, .int (l11)), (12, .int (l12)), (13, .int (l13)), (14, .int (l14)), (15, .int (l15)), (16, .int (l16)), (17, .int (l17)), (18, .int (l18))] → W p l e (h_lv 200 y0) s m args below meth c H locs (h_nx y - h_nx y0) (h_sl y - h_sl y0) Q (F0 m 334 ls [])) : ∀  (l2 : Int32) (l3 : Nat) (l5 : Nat) (l6 : Int32) (l7 : Int32) (l8 : Int64) (l10 : Int32) (l11 : Int32) (l12 : Int32) (l13 : Int32) (l14 : Int32) (l15 : Int32) (l16 : Int32) (l17 : Int32) (l18 : Int32) (l19 : Int32) (s0 : Int32) (s1 : Int32) (x : CS) (y : MS) (H : Heap) (locs : List Loc) (ls : Array Slot), f_l_L_law_510 (g_L G) (g_xs G) k10 k94 k215 k334 l2 l3 l5 l6 l7 l8 l10 l11 l12 l13 l14 l15 l16 l17 l18 l19 s0 s1 x y = some q → h_W G y0 (x, y, o) s.heap H locs → lv_has ls 22 [(0, .ref (g_st G 5)), (1, .ref (g_ad G (0))), (2, .int (l2)), (3, g_rf G (l3)), (5, g_rf G (l5)), (6, .int (l6)), (7, .int (l7)), (8, .long (l8)), (10, .int (l10)), (11, .int (l11)), (12, .int (l12)), (13, .int (l13)), (14, .int (l14)), (15, .int (l15)), (16, .int (l16)), (17, .int (l17)), (18, .int (l18)), (19, .int (l19))] → W p l e (h_lv 200 y0) s m args below meth c H locs (h_nx y - h_nx y0) (h_sl y - h_sl y0) Q (F0 m 510 ls [.int (s0), .int (s1)]) := by
  intro l2 l3 l5 l6 l7 l8 l10 l11 l12 l13 l14 l15 l16 l17 l18 l19 s0 s1 x y H locs ls h hW hl
  unfold f_l_L_law_510 at h
  refine lv_icmp_eq (tgt := 515) C0.hx C0.hb dL_law_510 (by decide) (fun hc163 => ?_) (fun hc163 => ?_)
  · replace h := (if_pos hc163).symm.trans h
    refine lv_iload C0.hx C0.hb dL_law_515 (lv_at hl 12 rfl) ?_
    refine lv_iload C0.hx C0.hb dL_law_517 (lv_at hl 16 rfl) ?_
    refine lv_icmp_eq (tgt := 563) C0.hx C0.hb dL_law_519 (by decide) (fun hc164 => ?_) (fun hc164 => ?_)
    · replace h := (if_pos hc164).symm.trans h
      have hz := w_l_L_law_563 (l := l) (e := e) (below := below) hfl hq1 KR C0 kt10 kt94 kt215 kt334 _ _ _ _ _ _ _ _ _ _ _ _ _ _ _ _ _ _ _ _ h hW (lv_sub hl [0, 1, 2, 3, 4, 5, 6, 7, 8, 9, 10, 11, 12, 13, 14, 15, 16] rfl)
      exact hz
    · replace h := (if_neg hc164).symm.trans h
      refine lv_iload C0.hx C0.hb dL_law_522 (lv_at hl 5 rfl) ?_
      refine lv_iconst (v := (1 : Int32)) C0.hx C0.hb dL_law_524 (by decide) ?_
      refine lv_icmp_le (tgt := 563) C0.hx C0.hb dL_law_525 (by decide) (fun hc165 => ?_) (fun hc165 => ?_)
      · replace h := (if_pos hc165).symm.trans h
        have hz := w_l_L_law_563 (l := l) (e := e) (below := below) hfl hq1 KR C0 kt10 kt94 kt215 kt334 _ _ _ _ _ _ _ _ _ _ _ _ _ _ _ _ _ _ _ _ h hW (lv_sub hl [0, 1, 2, 3, 4, 5, 6, 7, 8, 9, 10, 11, 12, 13, 14, 15, 16] rfl)
        exact hz
      · replace h := (if_neg hc165).symm.trans h
        refine lv_iload C0.hx C0.hb dL_law_528 (lv_at hl 17 rfl) ?_
        refine lv_aload_n C0.hx C0.hb dL_law_530 rfl (lv_at hl 1 rfl) ?_
        refine lv_iload C0.hx C0.hb dL_law_531 (lv_at hl 12 rfl) ?_
        refine lv_iload C0.hx C0.hb dL_law_533 (lv_at hl 14 rfl) ?_
        obtain ⟨q166, hq166, h⟩ := Option.bind_eq_some_iff.mp h
        refine h_kcalli hW (h_krunV (Sx := (x, y, o)) (As := [.int (l14), .int (l16)]) (rest := [.int (l19)]) C0 hW (c_X12_distanceBetween hq166) rfl ⟨tc_X12_distanceBetween, tn_X12, md_X12_distanceBetween, by decide⟩ (by omega) tm_L_209 ti_X12_distanceBetween ts_X12_distanceBetween rfl hl.1 rfl (Nat.le_of_ble_eq_true rfl) dL_law_535) (fun H locs hW => ?_)
        refine lv_icmp_lt (tgt := 561) C0.hx C0.hb dL_law_538 (by decide) (fun hc167 => ?_) (fun hc167 => ?_)
        · replace h := (if_pos hc167).symm.trans h
          refine lv_iconst (v := (0 : Int32)) C0.hx C0.hb dL_law_561 (by decide) ?_
          obtain rfl := Option.some.inj h
          exact h_lret hq1 (KR _ _ _ _ _ _ _ hW dL_law_562)
        · replace h := (if_neg hc167).symm.trans h
          refine lv_iload C0.hx C0.hb dL_law_541 (lv_at hl 17 rfl) ?_
          refine lv_aload_n C0.hx C0.hb dL_law_543 rfl (lv_at hl 1 rfl) ?_
          refine lv_iload C0.hx C0.hb dL_law_544 (lv_at hl 12 rfl) ?_
          refine lv_iload C0.hx C0.hb dL_law_546 (lv_at hl 14 rfl) ?_
          obtain ⟨q168, hq168, h⟩ := Option.bind_eq_some_iff.mp h
          refine h_kcalli hW (h_krunV (Sx := (x, y, o)) (As := [.int (l14), .int (l16)]) (rest := [.int (l19)]) C0 hW (c_X12_distanceBetween hq168) rfl ⟨tc_X12_distanceBetween, tn_X12, md_X12_distanceBetween, by decide⟩ (by omega) tm_L_209 ti_X12_distanceBetween ts_X12_distanceBetween rfl hl.1 rfl (Nat.le_of_ble_eq_true rfl) dL_law_548) (fun H locs hW => ?_)
          refine lv_icmp_ne (tgt := 563) C0.hx C0.hb dL_law_551 (by decide) (fun hc169 => ?_) (fun hc169 => ?_)
          · replace h := (if_neg hc169).symm.trans h
            have hz := w_l_L_law_563 (l := l) (e := e) (below := below) hfl hq1 KR C0 kt10 kt94 kt215 kt334 _ _ _ _ _ _ _ _ _ _ _ _ _ _ _ _ _ _ _ _ h hW (lv_sub hl [0, 1, 2, 3, 4, 5, 6, 7, 8, 9, 10, 11, 12, 13, 14, 15, 16] rfl)
            exact hz
          · replace h := (if_pos hc169).symm.trans h
            refine lv_iload C0.hx C0.hb dL_law_554 (lv_at hl 16 rfl) ?_
            refine lv_iload C0.hx C0.hb dL_law_556 (lv_at hl 14 rfl) ?_
            refine lv_icmp_ge (tgt := 563) C0.hx C0.hb dL_law_558 (by decide) (fun hc170 => ?_) (fun hc170 => ?_)
            · replace h := (if_pos hc170).symm.trans h
              have hz := w_l_L_law_563 (l := l) (e := e) (below := below) hfl hq1 KR C0 kt10 kt94 kt215 kt334 _ _ _ _ _ _ _ _ _ _ _ _ _ _ _ _ _ _ _ _ h hW (lv_sub hl [0, 1, 2, 3, 4, 5, 6, 7, 8, 9, 10, 11, 12, 13, 14, 15, 16] rfl)
              exact hz
            · replace h := (if_neg hc170).symm.trans h
              refine lv_iconst (v := (0 : Int32)) C0.hx C0.hb dL_law_561 (by decide) ?_
              obtain rfl := Option.some.inj h
              exact h_lret hq1 (KR _ _ _ _ _ _ _ hW dL_law_562)
  · replace h := (if_neg hc163).symm.trans h
    refine lv_iconst (v := (0 : Int32)) C0.hx C0.hb dL_law_513 (by decide) ?_
    obtain rfl := Option.some.inj h
    exact h_lret hq1 (KR _ _ _ _ _ _ _ hW dL_law_514)
set_option maxRecDepth 100000 in
set_option maxHeartbeats 4000000 in
theorem w_l_L_law_509 {p : Program} {l : Launch} {e : Env} {s : State} {m : MethodId} {args : Array Value} {below : List Frame} {meth : Method} {c : Code} {Q : State → Prop} {G : GL} {o : Nat → Int32} {y0 : MS} {q : Int32 × CS × MS} {k10 : Int32 → CS → MS → Option (Int32 × CS × MS)} {k94 : Int32 → Nat → Nat → Int32 → Int32 → CS → MS → Option (Int32 × CS × MS)} {k215 : Int32 → Nat → Nat → Int32 → Int32 → Int64 → Int32 → Int32 → Int32 → Int32 → Int32 → CS → MS → Option (Int32 × CS × MS)} {k334 : Int32 → Nat → Nat → Int32 → Int32 → Int64 → Int32 → Int32 → Int32 → Int32 → Int32 → Int32 → Int32 → Int32 → Int32 → CS → MS → Option (Int32 × CS × MS)} (hfl : l.stackTraces = false) (hq1 : q.1 = 1) (KR : ∀ (x : CS) (y : MS) (o : Nat → Int32) (pc : Nat) (H : Heap) (locs : List Loc) (ls : Array Slot), h_W G y0 (x, y, o) s.heap H locs → decode cL_law pc = .ok (.ireturn, 1) → W p l e (h_lv 200 y0) s m args below meth c H locs (h_nx y - h_nx y0) (h_sl y - h_sl y0) Q (F0 m pc ls [.int 1])) (C0 : g_X G (List.range 120) p s m args meth c cL_law 22 RL ret) (kt10 : ∀ (l2 : Int32) (x : CS) (y : MS) (H : Heap) (locs : List Loc) (ls : Array Slot), k10 l2 x y = some q → h_W G y0 (x, y, o) s.heap H locs → lv_has ls 22 [(0, .ref (g_st G 5)), (1, .ref (g_ad G (0))), (2, .int (l2))] → W p l e (h_lv 200 y0) s m args below meth c H locs (h_nx y - h_nx y0) (h_sl y - h_sl y0) Q (F0 m 10 ls [])) (kt94 : ∀ (l2 : Int32) (l3 : Nat) (l5 : Nat) (l6 : Int32) (l7 : Int32) (x : CS) (y : MS) (H : Heap) (locs : List Loc) (ls : Array Slot), k94 l2 l3 l5 l6 l7 x y = some q → h_W G y0 (x, y, o) s.heap H locs → lv_has ls 22 [(0, .ref (g_st G 5)), (1, .ref (g_ad G (0))), (2, .int (l2)), (3, g_rf G (l3)), (5, g_rf G (l5)), (6, .int (l6)), (7, .int (l7))] → W p l e (h_lv 200 y0) s m args below meth c H locs (h_nx y - h_nx y0) (h_sl y - h_sl y0) Q (F0 m 94 ls [])) (kt215 : ∀ (l2 : Int32) (l3 : Nat) (l5 : Nat) (l6 : Int32) (l7 : Int32) (l8 : Int64) (l10 : Int32) (l11 : Int32) (l12 : Int32) (l13 : Int32) (l14 : Int32) (x : CS) (y : MS) (H : Heap) (locs : List Loc) (ls : Array Slot), k215 l2 l3 l5 l6 l7 l8 l10 l11 l12 l13 l14 x y = some q → h_W G y0 (x, y, o) s.heap H locs → lv_has ls 22 [(0, .ref (g_st G 5)), (1, .ref (g_ad G (0))), (2, .int (l2)), (3, g_rf G (l3)), (5, g_rf G (l5)), (6, .int (l6)), (7, .int (l7)), (8, .long (l8)), (10, .int (l10)), (11, .int (l11)), (12, .int (l12)), (13, .int (l13)), (14, .int (l14))] → W p l e (h_lv 200 y0) s m args below meth c H locs (h_nx y - h_nx y0) (h_sl y - h_sl y0) Q (F0 m 215 ls [])) (kt334 : ∀ (l2 : Int32) (l3 : Nat) (l5 : Nat) (l6 : Int32) (l7 : Int32) (l8 : Int64) (l10 : Int32) (l11 : Int32) (l12 : Int32) (l13 : Int32) (l14 : Int32) (l15 : Int32) (l16 : Int32) (l17 : Int32) (l18 : Int32) (x : CS) (y : MS) (H : Heap) (locs : List Loc) (ls : Array Slot), k334 l2 l3 l5 l6 l7 l8 l10 l11 l12 l13 l14 l15 l16 l17 l18 x y = some q → h_W G y0 (x, y, o) s.heap H locs → lv_has ls 22 [(0, .ref (g_st G 5)), (1, .ref (g_ad G (0))), (2, .int (l2)), (3, g_rf G (l3)), (5, g_rf G (l5)), (6, .int (l6)), (7, .int (l7)), (8, .long (l8)), (10, .int (l10)), (11, .int (l11)), (12, .int (l12)), (13, .int (l13)), (14, .int (l14)), (15, .int (l15)), (16, .int (l16)), (17, .int (l17)), (18, .int (l18))] → W p l e (h_lv 200 y0) s m args below meth c H locs (h_nx y - h_nx y0) (h_sl y - h_sl y0) Q (F0 m 334 ls [])) : ∀  (l2 : Int32) (l3 : Nat) (l5 : Nat) (l6 : Int32) (l7 : Int32) (l8 : Int64) (l10 : Int32) (l11 : Int32) (l12 : Int32) (l13 : Int32) (l14 : Int32) (l15 : Int32) (l16 : Int32) (l17 : Int32) (l18 : Int32) (l19 : Int32) (s0 : Int32) (x : CS) (y : MS) (H : Heap) (locs : List Loc) (ls : Array Slot), f_l_L_law_509 (g_L G) (g_xs G) k10 k94 k215 k334 l2 l3 l5 l6 l7 l8 l10 l11 l12 l13 l14 l15 l16 l17 l18 l19 s0 x y = some q → h_W G y0 (x, y, o) s.heap H locs → lv_has ls 22 [(0, .ref (g_st G 5)), (1, .ref (g_ad G (0))), (2, .int (l2)), (3, g_rf G (l3)), (5, g_rf G (l5)), (6, .int (l6)), (7, .int (l7)), (8, .long (l8)), (10, .int (l10)), (11, .int (l11)), (12, .int (l12)), (13, .int (l13)), (14, .int (l14)), (15, .int (l15)), (16, .int (l16)), (17, .int (l17)), (18, .int (l18)), (19, .int (l19))] → W p l e (h_lv 200 y0) s m args below meth c H locs (h_nx y - h_nx y0) (h_sl y - h_sl y0) Q (F0 m 509 ls [.int (s0)]) := by
  intro l2 l3 l5 l6 l7 l8 l10 l11 l12 l13 l14 l15 l16 l17 l18 l19 s0 x y H locs ls h hW hl
  unfold f_l_L_law_509 at h
  refine lv_iconst (v := (0 : Int32)) C0.hx C0.hb dL_law_509 (by decide) ?_
  have hz := w_l_L_law_510 (l := l) (e := e) (below := below) hfl hq1 KR C0 kt10 kt94 kt215 kt334 _ _ _ _ _ _ _ _ _ _ _ _ _ _ _ _ _ _ _ _ _ _ _ h hW (lv_sub hl [0, 1, 2, 3, 4, 5, 6, 7, 8, 9, 10, 11, 12, 13, 14, 15, 16, 17] rfl)
  exact hz
set_option maxRecDepth 100000 in
set_option maxHeartbeats 4000000 in
theorem w_l_L_law_453 {p : Program} {l : Launch} {e : Env} {s : State} {m : MethodId} {args : Array Value} {below : List Frame} {meth : Method} {c : Code} {Q : State → Prop} {G : GL} {o : Nat → Int32} {y0 : MS} {q : Int32 × CS × MS} {k10 : Int32 → CS → MS → Option (Int32 × CS × MS)} {k94 : Int32 → Nat → Nat → Int32 → Int32 → CS → MS → Option (Int32 × CS × MS)} {k215 : Int32 → Nat → Nat → Int32 → Int32 → Int64 → Int32 → Int32 → Int32 → Int32 → Int32 → CS → MS → Option (Int32 × CS × MS)} {k334 : Int32 → Nat → Nat → Int32 → Int32 → Int64 → Int32 → Int32 → Int32 → Int32 → Int32 → Int32 → Int32 → Int32 → Int32 → CS → MS → Option (Int32 × CS × MS)} (hfl : l.stackTraces = false) (hq1 : q.1 = 1) (KR : ∀ (x : CS) (y : MS) (o : Nat → Int32) (pc : Nat) (H : Heap) (locs : List Loc) (ls : Array Slot), h_W G y0 (x, y, o) s.heap H locs → decode cL_law pc = .ok (.ireturn, 1) → W p l e (h_lv 200 y0) s m args below meth c H locs (h_nx y - h_nx y0) (h_sl y - h_sl y0) Q (F0 m pc ls [.int 1])) (C0 : g_X G (List.range 120) p s m args meth c cL_law 22 RL ret) (kt10 : ∀ (l2 : Int32) (x : CS) (y : MS) (H : Heap) (locs : List Loc) (ls : Array Slot), k10 l2 x y = some q → h_W G y0 (x, y, o) s.heap H locs → lv_has ls 22 [(0, .ref (g_st G 5)), (1, .ref (g_ad G (0))), (2, .int (l2))] → W p l e (h_lv 200 y0) s m args below meth c H locs (h_nx y - h_nx y0) (h_sl y - h_sl y0) Q (F0 m 10 ls [])) (kt94 : ∀ (l2 : Int32) (l3 : Nat) (l5 : Nat) (l6 : Int32) (l7 : Int32) (x : CS) (y : MS) (H : Heap) (locs : List Loc) (ls : Array Slot), k94 l2 l3 l5 l6 l7 x y = some q → h_W G y0 (x, y, o) s.heap H locs → lv_has ls 22 [(0, .ref (g_st G 5)), (1, .ref (g_ad G (0))), (2, .int (l2)), (3, g_rf G (l3)), (5, g_rf G (l5)), (6, .int (l6)), (7, .int (l7))] → W p l e (h_lv 200 y0) s m args below meth c H locs (h_nx y - h_nx y0) (h_sl y - h_sl y0) Q (F0 m 94 ls [])) (kt215 : ∀ (l2 : Int32) (l3 : Nat) (l5 : Nat) (l6 : Int32) (l7 : Int32) (l8 : Int64) (l10 : Int32) (l11 : Int32) (l12 : Int32) (l13 : Int32) (l14 : Int32) (x : CS) (y : MS) (H : Heap) (locs : List Loc) (ls : Array Slot), k215 l2 l3 l5 l6 l7 l8 l10 l11 l12 l13 l14 x y = some q → h_W G y0 (x, y, o) s.heap H locs → lv_has ls 22 [(0, .ref (g_st G 5)), (1, .ref (g_ad G (0))), (2, .int (l2)), (3, g_rf G (l3)), (5, g_rf G (l5)), (6, .int (l6)), (7, .int (l7)), (8, .long (l8)), (10, .int (l10)), (11, .int (l11)), (12, .int (l12)), (13, .int (l13)), (14, .int (l14))] → W p l e (h_lv 200 y0) s m args below meth c H locs (h_nx y - h_nx y0) (h_sl y - h_sl y0) Q (F0 m 215 ls [])) (kt334 : ∀ (l2 : Int32) (l3 : Nat) (l5 : Nat) (l6 : Int32) (l7 : Int32) (l8 : Int64) (l10 : Int32) (l11 : Int32) (l12 : Int32) (l13 : Int32) (l14 : Int32) (l15 : Int32) (l16 : Int32) (l17 : Int32) (l18 : Int32) (x : CS) (y : MS) (H : Heap) (locs : List Loc) (ls : Array Slot), k334 l2 l3 l5 l6 l7 l8 l10 l11 l12 l13 l14 l15 l16 l17 l18 x y = some q → h_W G y0 (x, y, o) s.heap H locs → lv_has ls 22 [(0, .ref (g_st G 5)), (1, .ref (g_ad G (0))), (2, .int (l2)), (3, g_rf G (l3)), (5, g_rf G (l5)), (6, .int (l6)), (7, .int (l7)), (8, .long (l8)), (10, .int (l10)), (11, .int (l11)), (12, .int (l12)), (13, .int (l13)), (14, .int (l14)), (15, .int (l15)), (16, .int (l16)), (17, .int (l17)), (18, .int (l18))] → W p l e (h_lv 200 y0) s m args below meth c H locs (h_nx y - h_nx y0) (h_sl y - h_sl y0) Q (F0 m 334 ls [])) : ∀  (l2 : Int32) (l3 : Nat) (l5 : Nat) (l6 : Int32) (l7 : Int32) (l8 : Int64) (l10 : Int32) (l11 : Int32) (l12 : Int32) (l13 : Int32) (l14 : Int32) (l15 : Int32) (l16 : Int32) (l17 : Int32) (l18 : Int32) (l19 : Int32) (l20 : Int32) (x : CS) (y : MS) (H : Heap) (locs : List Loc) (ls : Array Slot), f_l_L_law_453 (g_L G) (g_xs G) k10 k94 k215 k334 l2 l3 l5 l6 l7 l8 l10 l11 l12 l13 l14 l15 l16 l17 l18 l19 l20 x y = some q → h_W G y0 (x, y, o) s.heap H locs → lv_has ls 22 [(0, .ref (g_st G 5)), (1, .ref (g_ad G (0))), (2, .int (l2)), (3, g_rf G (l3)), (5, g_rf G (l5)), (6, .int (l6)), (7, .int (l7)), (8, .long (l8)), (10, .int (l10)), (11, .int (l11)), (12, .int (l12)), (13, .int (l13)), (14, .int (l14)), (15, .int (l15)), (16, .int (l16)), (17, .int (l17)), (18, .int (l18)), (19, .int (l19)), (20, .int (l20))] → W p l e (h_lv 200 y0) s m args below meth c H locs (h_nx y - h_nx y0) (h_sl y - h_sl y0) Q (F0 m 453 ls []) := by
  intro l2 l3 l5 l6 l7 l8 l10 l11 l12 l13 l14 l15 l16 l17 l18 l19 l20 x y H locs ls h hW hl
  unfold f_l_L_law_453 at h
  refine lv_aload_n C0.hx C0.hb dL_law_453 rfl (lv_at hl 1 rfl) ?_
  refine lv_iload C0.hx C0.hb dL_law_454 (lv_at hl 12 rfl) ?_
  refine lv_iload C0.hx C0.hb dL_law_456 (lv_at hl 16 rfl) ?_
  obtain ⟨q139, hq139, h⟩ := Option.bind_eq_some_iff.mp h
  refine h_kcalli hW (h_krunV (Sx := (x, y, o)) (As := [.int (l14), .int (l18)]) (rest := []) C0 hW (c_X12_contourBetween hq139) rfl ⟨tc_X12_contourBetween, tn_X12, md_X12_contourBetween, by decide⟩ (by omega) tm_L_220 ti_X12_contourBetween ts_X12_contourBetween rfl hl.1 rfl (Nat.le_of_ble_eq_true rfl) dL_law_458) (fun H locs hW => ?_)
  refine lv_iload C0.hx C0.hb dL_law_461 (lv_at hl 13 rfl) ?_
  refine lv_aload_n C0.hx C0.hb dL_law_463 rfl (lv_at hl 1 rfl) ?_
  refine lv_iload C0.hx C0.hb dL_law_464 (lv_at hl 16 rfl) ?_
  obtain ⟨q140, hq140, h⟩ := Option.bind_eq_some_iff.mp h
  refine h_kcalli hW (h_krunV (Sx := (x, y, o)) (As := [.int (l18)]) (rest := [.int (l15), .int (q139.1)]) C0 hW (c_X12_lengthOf hq140) rfl ⟨tc_X12_lengthOf, tn_X12, md_X12_lengthOf, by decide⟩ (by omega) tm_L_192 ti_X12_lengthOf ts_X12_lengthOf rfl hl.1 rfl (Nat.le_of_ble_eq_true rfl) dL_law_466) (fun H locs hW => ?_)
  refine lv_iadd C0.hx C0.hb dL_law_469 ?_
  refine lv_iconst (v := (1 : Int32)) C0.hx C0.hb dL_law_470 (by decide) ?_
  refine lv_isub C0.hx C0.hb dL_law_471 ?_
  refine lv_icmp_gt (tgt := 513) C0.hx C0.hb dL_law_472 (by decide) (fun hc141 => ?_) (fun hc141 => ?_)
  · replace h := (if_pos hc141).symm.trans h
    refine lv_iconst (v := (0 : Int32)) C0.hx C0.hb dL_law_513 (by decide) ?_
    obtain rfl := Option.some.inj h
    exact h_lret hq1 (KR _ _ _ _ _ _ _ hW dL_law_514)
  · replace h := (if_neg hc141).symm.trans h
    refine lv_aload_n C0.hx C0.hb dL_law_475 rfl (lv_at hl 1 rfl) ?_
    refine lv_iload C0.hx C0.hb dL_law_476 (lv_at hl 12 rfl) ?_
    refine lv_iload C0.hx C0.hb dL_law_478 (lv_at hl 16 rfl) ?_
    obtain ⟨q142, hq142, h⟩ := Option.bind_eq_some_iff.mp h
    refine h_kcalli hW (h_krunV (Sx := (x, y, o)) (As := [.int (l14), .int (l18)]) (rest := []) C0 hW (c_X12_areNear hq142) rfl ⟨tc_X12_areNear, tn_X12, md_X12_areNear, by decide⟩ (by omega) tm_L_223 ti_X12_areNear ts_X12_areNear rfl hl.1 rfl (Nat.le_of_ble_eq_true rfl) dL_law_480) (fun H locs hW => ?_)
    refine lv_iload C0.hx C0.hb dL_law_483 (lv_at hl 12 rfl) ?_
    refine lv_iload C0.hx C0.hb dL_law_485 (lv_at hl 16 rfl) ?_
    refine lv_icmp_eq (tgt := 509) C0.hx C0.hb dL_law_487 (by decide) (fun hc143 => ?_) (fun hc143 => ?_)
    · replace h := (if_pos hc143).symm.trans h
      have hz := w_l_L_law_509 (l := l) (e := e) (below := below) hfl hq1 KR C0 kt10 kt94 kt215 kt334 _ _ _ _ _ _ _ _ _ _ _ _ _ _ _ _ _ _ _ _ _ _ h hW (lv_sub hl [0, 1, 2, 3, 4, 5, 6, 7, 8, 9, 10, 11, 12, 13, 14, 15, 16, 17] rfl)
      exact hz
    · replace h := (if_neg hc143).symm.trans h
      refine lv_iload C0.hx C0.hb dL_law_490 (lv_at hl 17 rfl) ?_
      refine h_aload C0.hx C0.hb dL_law_492 (lv_at hl 4 rfl) ?_
      obtain ⟨hk144, h⟩ := g_if h
      refine hf_X16_1 C0 hW hk144 tf_L_89 dL_law_494 ?_
      refine lv_iload C0.hx C0.hb dL_law_497 (lv_at hl 18 rfl) ?_
      refine lv_imul C0.hx C0.hb dL_law_499 ?_
      refine lv_iconst (v := (4 : Int32)) C0.hx C0.hb dL_law_500 (by decide) ?_
      refine lv_idiv C0.hx C0.hb dL_law_501 (by decide) ?_
      refine lv_icmp_ge (tgt := 509) C0.hx C0.hb dL_law_502 (by decide) (fun hc145 => ?_) (fun hc145 => ?_)
      · replace h := (if_pos hc145).symm.trans h
        have hz := w_l_L_law_509 (l := l) (e := e) (below := below) hfl hq1 KR C0 kt10 kt94 kt215 kt334 _ _ _ _ _ _ _ _ _ _ _ _ _ _ _ _ _ _ _ _ _ _ h hW (lv_sub hl [0, 1, 2, 3, 4, 5, 6, 7, 8, 9, 10, 11, 12, 13, 14, 15, 16, 17] rfl)
        exact hz
      · replace h := (if_neg hc145).symm.trans h
        refine lv_iconst (v := (1 : Int32)) C0.hx C0.hb dL_law_505 (by decide) ?_
        refine lv_goto (tgt := 510) C0.hx C0.hb dL_law_506 (by decide) ?_
        have hz := w_l_L_law_510 (l := l) (e := e) (below := below) hfl hq1 KR C0 kt10 kt94 kt215 kt334 _ _ _ _ _ _ _ _ _ _ _ _ _ _ _ _ _ _ _ _ _ _ _ h hW (lv_sub hl [0, 1, 2, 3, 4, 5, 6, 7, 8, 9, 10, 11, 12, 13, 14, 15, 16, 17] rfl)
        exact hz
set_option maxRecDepth 100000 in
set_option maxHeartbeats 4000000 in
theorem w_l_L_law_421 {p : Program} {l : Launch} {e : Env} {s : State} {m : MethodId} {args : Array Value} {below : List Frame} {meth : Method} {c : Code} {Q : State → Prop} {G : GL} {o : Nat → Int32} {y0 : MS} {q : Int32 × CS × MS} {k10 : Int32 → CS → MS → Option (Int32 × CS × MS)} {k94 : Int32 → Nat → Nat → Int32 → Int32 → CS → MS → Option (Int32 × CS × MS)} {k215 : Int32 → Nat → Nat → Int32 → Int32 → Int64 → Int32 → Int32 → Int32 → Int32 → Int32 → CS → MS → Option (Int32 × CS × MS)} {k334 : Int32 → Nat → Nat → Int32 → Int32 → Int64 → Int32 → Int32 → Int32 → Int32 → Int32 → Int32 → Int32 → Int32 → Int32 → CS → MS → Option (Int32 × CS × MS)} (hfl : l.stackTraces = false) (hq1 : q.1 = 1) (KR : ∀ (x : CS) (y : MS) (o : Nat → Int32) (pc : Nat) (H : Heap) (locs : List Loc) (ls : Array Slot), h_W G y0 (x, y, o) s.heap H locs → decode cL_law pc = .ok (.ireturn, 1) → W p l e (h_lv 200 y0) s m args below meth c H locs (h_nx y - h_nx y0) (h_sl y - h_sl y0) Q (F0 m pc ls [.int 1])) (C0 : g_X G (List.range 120) p s m args meth c cL_law 22 RL ret) (kt10 : ∀ (l2 : Int32) (x : CS) (y : MS) (H : Heap) (locs : List Loc) (ls : Array Slot), k10 l2 x y = some q → h_W G y0 (x, y, o) s.heap H locs → lv_has ls 22 [(0, .ref (g_st G 5)), (1, .ref (g_ad G (0))), (2, .int (l2))] → W p l e (h_lv 200 y0) s m args below meth c H locs (h_nx y - h_nx y0) (h_sl y - h_sl y0) Q (F0 m 10 ls [])) (kt94 : ∀ (l2 : Int32) (l3 : Nat) (l5 : Nat) (l6 : Int32) (l7 : Int32) (x : CS) (y : MS) (H : Heap) (locs : List Loc) (ls : Array Slot), k94 l2 l3 l5 l6 l7 x y = some q → h_W G y0 (x, y, o) s.heap H locs → lv_has ls 22 [(0, .ref (g_st G 5)), (1, .ref (g_ad G (0))), (2, .int (l2)), (3, g_rf G (l3)), (5, g_rf G (l5)), (6, .int (l6)), (7, .int (l7))] → W p l e (h_lv 200 y0) s m args below meth c H locs (h_nx y - h_nx y0) (h_sl y - h_sl y0) Q (F0 m 94 ls [])) (kt215 : ∀ (l2 : Int32) (l3 : Nat) (l5 : Nat) (l6 : Int32) (l7 : Int32) (l8 : Int64) (l10 : Int32) (l11 : Int32) (l12 : Int32) (l13 : Int32) (l14 : Int32) (x : CS) (y : MS) (H : Heap) (locs : List Loc) (ls : Array Slot), k215 l2 l3 l5 l6 l7 l8 l10 l11 l12 l13 l14 x y = some q → h_W G y0 (x, y, o) s.heap H locs → lv_has ls 22 [(0, .ref (g_st G 5)), (1, .ref (g_ad G (0))), (2, .int (l2)), (3, g_rf G (l3)), (5, g_rf G (l5)), (6, .int (l6)), (7, .int (l7)), (8, .long (l8)), (10, .int (l10)), (11, .int (l11)), (12, .int (l12)), (13, .int (l13)), (14, .int (l14))] → W p l e (h_lv 200 y0) s m args below meth c H locs (h_nx y - h_nx y0) (h_sl y - h_sl y0) Q (F0 m 215 ls [])) (kt334 : ∀ (l2 : Int32) (l3 : Nat) (l5 : Nat) (l6 : Int32) (l7 : Int32) (l8 : Int64) (l10 : Int32) (l11 : Int32) (l12 : Int32) (l13 : Int32) (l14 : Int32) (l15 : Int32) (l16 : Int32) (l17 : Int32) (l18 : Int32) (x : CS) (y : MS) (H : Heap) (locs : List Loc) (ls : Array Slot), k334 l2 l3 l5 l6 l7 l8 l10 l11 l12 l13 l14 l15 l16 l17 l18 x y = some q → h_W G y0 (x, y, o) s.heap H locs → lv_has ls 22 [(0, .ref (g_st G 5)), (1, .ref (g_ad G (0))), (2, .int (l2)), (3, g_rf G (l3)), (5, g_rf G (l5)), (6, .int (l6)), (7, .int (l7)), (8, .long (l8)), (10, .int (l10)), (11, .int (l11)), (12, .int (l12)), (13, .int (l13)), (14, .int (l14)), (15, .int (l15)), (16, .int (l16)), (17, .int (l17)), (18, .int (l18))] → W p l e (h_lv 200 y0) s m args below meth c H locs (h_nx y - h_nx y0) (h_sl y - h_sl y0) Q (F0 m 334 ls [])) : ∀  (l2 : Int32) (l3 : Nat) (l5 : Nat) (l6 : Int32) (l7 : Int32) (l8 : Int64) (l10 : Int32) (l11 : Int32) (l12 : Int32) (l13 : Int32) (l14 : Int32) (l15 : Int32) (l16 : Int32) (l17 : Int32) (l18 : Int32) (l19 : Int32) (l20 : Int32) (l21 : Int32) (x : CS) (y : MS) (H : Heap) (locs : List Loc) (ls : Array Slot), f_l_L_law_421 (g_L G) (g_xs G) k10 k94 k215 k334 l2 l3 l5 l6 l7 l8 l10 l11 l12 l13 l14 l15 l16 l17 l18 l19 l20 l21 x y = some q → h_W G y0 (x, y, o) s.heap H locs → lv_has ls 22 [(0, .ref (g_st G 5)), (1, .ref (g_ad G (0))), (2, .int (l2)), (3, g_rf G (l3)), (5, g_rf G (l5)), (6, .int (l6)), (7, .int (l7)), (8, .long (l8)), (10, .int (l10)), (11, .int (l11)), (12, .int (l12)), (13, .int (l13)), (14, .int (l14)), (15, .int (l15)), (16, .int (l16)), (17, .int (l17)), (18, .int (l18)), (19, .int (l19)), (20, .int (l20)), (21, .int (l21))] → W p l e (h_lv 200 y0) s m args below meth c H locs (h_nx y - h_nx y0) (h_sl y - h_sl y0) Q (F0 m 421 ls []) := by
  intro l2 l3 l5 l6 l7 l8 l10 l11 l12 l13 l14 l15 l16 l17 l18 l19 l20 l21 x y H locs ls h hW hl
  unfold f_l_L_law_421 at h
  refine lv_iload C0.hx C0.hb dL_law_421 (lv_at hl 17 rfl) ?_
  refine lv_aload_n C0.hx C0.hb dL_law_423 rfl (lv_at hl 1 rfl) ?_
  refine lv_iload C0.hx C0.hb dL_law_424 (lv_at hl 16 rfl) ?_
  refine lv_iload C0.hx C0.hb dL_law_426 (lv_at hl 12 rfl) ?_
  obtain ⟨q121, hq121, h⟩ := Option.bind_eq_some_iff.mp h
  refine h_kcalli hW (h_krunV (Sx := (x, y, o)) (As := [.int (l18), .int (l14)]) (rest := [.int (l19)]) C0 hW (c_X12_distanceBetween hq121) rfl ⟨tc_X12_distanceBetween, tn_X12, md_X12_distanceBetween, by decide⟩ (by omega) tm_L_209 ti_X12_distanceBetween ts_X12_distanceBetween rfl hl.1 rfl (Nat.le_of_ble_eq_true rfl) dL_law_428) (fun H locs hW => ?_)
  refine lv_icmp_ne (tgt := 513) C0.hx C0.hb dL_law_431 (by decide) (fun hc122 => ?_) (fun hc122 => ?_)
  · replace h := (if_neg hc122).symm.trans h
    refine lv_iconst (v := (0 : Int32)) C0.hx C0.hb dL_law_513 (by decide) ?_
    obtain rfl := Option.some.inj h
    exact h_lret hq1 (KR _ _ _ _ _ _ _ hW dL_law_514)
  · replace h := (if_pos hc122).symm.trans h
    refine lv_iload C0.hx C0.hb dL_law_434 (lv_at hl 17 rfl) ?_
    refine lv_iload C0.hx C0.hb dL_law_436 (lv_at hl 19 rfl) ?_
    refine lv_icmp_lt (tgt := 513) C0.hx C0.hb dL_law_438 (by decide) (fun hc123 => ?_) (fun hc123 => ?_)
    · replace h := (if_pos hc123).symm.trans h
      refine lv_iconst (v := (0 : Int32)) C0.hx C0.hb dL_law_513 (by decide) ?_
      obtain rfl := Option.some.inj h
      exact h_lret hq1 (KR _ _ _ _ _ _ _ hW dL_law_514)
    · replace h := (if_neg hc123).symm.trans h
      refine lv_iload C0.hx C0.hb dL_law_441 (lv_at hl 12 rfl) ?_
      refine lv_iload C0.hx C0.hb dL_law_443 (lv_at hl 16 rfl) ?_
      refine lv_icmp_ne (tgt := 453) C0.hx C0.hb dL_law_445 (by decide) (fun hc124 => ?_) (fun hc124 => ?_)
      · replace h := (if_neg hc124).symm.trans h
        have hz := w_l_L_law_453 (l := l) (e := e) (below := below) hfl hq1 KR C0 kt10 kt94 kt215 kt334 _ _ _ _ _ _ _ _ _ _ _ _ _ _ _ _ _ _ _ _ _ _ h hW (lv_sub hl [0, 1, 2, 3, 4, 5, 6, 7, 8, 9, 10, 11, 12, 13, 14, 15, 16, 17, 18] rfl)
        exact hz
      · replace h := (if_pos hc124).symm.trans h
        refine lv_iload C0.hx C0.hb dL_law_448 (lv_at hl 17 rfl) ?_
        refine lv_if_ne (tgt := 513) C0.hx C0.hb dL_law_450 (by decide) (fun hc125 => ?_) (fun hc125 => ?_)
        · replace h := (if_neg hc125).symm.trans h
          refine lv_iconst (v := (0 : Int32)) C0.hx C0.hb dL_law_513 (by decide) ?_
          obtain rfl := Option.some.inj h
          exact h_lret hq1 (KR _ _ _ _ _ _ _ hW dL_law_514)
        · replace h := (if_pos hc125).symm.trans h
          have hz := w_l_L_law_453 (l := l) (e := e) (below := below) hfl hq1 KR C0 kt10 kt94 kt215 kt334 _ _ _ _ _ _ _ _ _ _ _ _ _ _ _ _ _ _ _ _ _ _ h hW (lv_sub hl [0, 1, 2, 3, 4, 5, 6, 7, 8, 9, 10, 11, 12, 13, 14, 15, 16, 17, 18] rfl)
          exact hz
set_option maxRecDepth 100000 in
set_option maxHeartbeats 4000000 in
theorem w_l_L_law_334 {p : Program} {l : Launch} {e : Env} {s : State} {m : MethodId} {args : Array Value} {below : List Frame} {meth : Method} {c : Code} {Q : State → Prop} {G : GL} {o : Nat → Int32} {y0 : MS} {q : Int32 × CS × MS} {k10 : Int32 → CS → MS → Option (Int32 × CS × MS)} {k94 : Int32 → Nat → Nat → Int32 → Int32 → CS → MS → Option (Int32 × CS × MS)} {k215 : Int32 → Nat → Nat → Int32 → Int32 → Int64 → Int32 → Int32 → Int32 → Int32 → Int32 → CS → MS → Option (Int32 × CS × MS)} (hfl : l.stackTraces = false) (hq1 : q.1 = 1) (KR : ∀ (x : CS) (y : MS) (o : Nat → Int32) (pc : Nat) (H : Heap) (locs : List Loc) (ls : Array Slot), h_W G y0 (x, y, o) s.heap H locs → decode cL_law pc = .ok (.ireturn, 1) → W p l e (h_lv 200 y0) s m args below meth c H locs (h_nx y - h_nx y0) (h_sl y - h_sl y0) Q (F0 m pc ls [.int 1])) (C0 : g_X G (List.range 120) p s m args meth c cL_law 22 RL ret) (kt10 : ∀ (l2 : Int32) (x : CS) (y : MS) (H : Heap) (locs : List Loc) (ls : Array Slot), k10 l2 x y = some q → h_W G y0 (x, y, o) s.heap H locs → lv_has ls 22 [(0, .ref (g_st G 5)), (1, .ref (g_ad G (0))), (2, .int (l2))] → W p l e (h_lv 200 y0) s m args below meth c H locs (h_nx y - h_nx y0) (h_sl y - h_sl y0) Q (F0 m 10 ls [])) (kt94 : ∀ (l2 : Int32) (l3 : Nat) (l5 : Nat) (l6 : Int32) (l7 : Int32) (x : CS) (y : MS) (H : Heap) (locs : List Loc) (ls : Array Slot), k94 l2 l3 l5 l6 l7 x y = some q → h_W G y0 (x, y, o) s.heap H locs → lv_has ls 22 [(0, .ref (g_st G 5)), (1, .ref (g_ad G (0))), (2, .int (l2)), (3, g_rf G (l3)), (5, g_rf G (l5)), (6, .int (l6)), (7, .int (l7))] → W p l e (h_lv 200 y0) s m args below meth c H locs (h_nx y - h_nx y0) (h_sl y - h_sl y0) Q (F0 m 94 ls [])) (kt215 : ∀ (l2 : Int32) (l3 : Nat) (l5 : Nat) (l6 : Int32) (l7 : Int32) (l8 : Int64) (l10 : Int32) (l11 : Int32) (l12 : Int32) (l13 : Int32) (l14 : Int32) (x : CS) (y : MS) (H : Heap) (locs : List Loc) (ls : Array Slot), k215 l2 l3 l5 l6 l7 l8 l10 l11 l12 l13 l14 x y = some q → h_W G y0 (x, y, o) s.heap H locs → lv_has ls 22 [(0, .ref (g_st G 5)), (1, .ref (g_ad G (0))), (2, .int (l2)), (3, g_rf G (l3)), (5, g_rf G (l5)), (6, .int (l6)), (7, .int (l7)), (8, .long (l8)), (10, .int (l10)), (11, .int (l11)), (12, .int (l12)), (13, .int (l13)), (14, .int (l14))] → W p l e (h_lv 200 y0) s m args below meth c H locs (h_nx y - h_nx y0) (h_sl y - h_sl y0) Q (F0 m 215 ls [])) : ∀ (n : Nat) (l2 : Int32) (l3 : Nat) (l5 : Nat) (l6 : Int32) (l7 : Int32) (l8 : Int64) (l10 : Int32) (l11 : Int32) (l12 : Int32) (l13 : Int32) (l14 : Int32) (l15 : Int32) (l16 : Int32) (l17 : Int32) (l18 : Int32) (x : CS) (y : MS) (H : Heap) (locs : List Loc) (ls : Array Slot), f_l_L_law_334 (g_L G) (g_xs G) k10 k94 k215 n l2 l3 l5 l6 l7 l8 l10 l11 l12 l13 l14 l15 l16 l17 l18 x y = some q → h_W G y0 (x, y, o) s.heap H locs → lv_has ls 22 [(0, .ref (g_st G 5)), (1, .ref (g_ad G (0))), (2, .int (l2)), (3, g_rf G (l3)), (5, g_rf G (l5)), (6, .int (l6)), (7, .int (l7)), (8, .long (l8)), (10, .int (l10)), (11, .int (l11)), (12, .int (l12)), (13, .int (l13)), (14, .int (l14)), (15, .int (l15)), (16, .int (l16)), (17, .int (l17)), (18, .int (l18))] → W p l e (h_lv 200 y0) s m args below meth c H locs (h_nx y - h_nx y0) (h_sl y - h_sl y0) Q (F0 m 334 ls []) := by
  intro n
  induction n with
  | zero =>
    intro l2 l3 l5 l6 l7 l8 l10 l11 l12 l13 l14 l15 l16 l17 l18 x y H locs ls h hW hl
    exact absurd h (by simp [f_l_L_law_334])
  | succ n ih =>
    intro l2 l3 l5 l6 l7 l8 l10 l11 l12 l13 l14 l15 l16 l17 l18 x y H locs ls h hW hl
    unfold f_l_L_law_334 at h
    refine lv_iload C0.hx C0.hb dL_law_334 (lv_at hl 16 rfl) ?_
    refine lv_iload C0.hx C0.hb dL_law_336 (lv_at hl 5 rfl) ?_
    refine lv_icmp_ge (tgt := 606) C0.hx C0.hb dL_law_338 (by decide) (fun hc86 => ?_) (fun hc86 => ?_)
    · replace h := (if_pos hc86).symm.trans h
      refine lv_aload_n C0.hx C0.hb dL_law_606 rfl (lv_at hl 1 rfl) ?_
      refine lv_iload C0.hx C0.hb dL_law_607 (lv_at hl 12 rfl) ?_
      obtain ⟨q87, hq87, h⟩ := Option.bind_eq_some_iff.mp h
      refine h_kcalli hW (h_krunV (Sx := (x, y, o)) (As := [.int (l14)]) (rest := []) C0 hW (c_X12_isNeedless hq87) rfl ⟨tc_X12_isNeedless, tn_X12, md_X12_isNeedless, by decide⟩ (by omega) tm_L_230 ti_X12_isNeedless ts_X12_isNeedless rfl hl.1 rfl (Nat.le_of_ble_eq_true rfl) dL_law_609) (fun H locs hW => ?_)
      refine lv_iload C0.hx C0.hb dL_law_612 (lv_at hl 15 rfl) ?_
      refine lv_if_eq (tgt := 630) C0.hx C0.hb dL_law_614 (by decide) (fun hc88 => ?_) (fun hc88 => ?_)
      · replace h := (if_pos hc88).symm.trans h
        have hz := w_l_L_law_630 (l := l) (e := e) (below := below) hfl hq1 KR C0 kt10 kt94 kt215 _ _ _ _ _ _ _ _ _ _ _ _ _ _ _ _ _ _ h hW (lv_sub hl [0, 1, 2, 3, 4, 5, 6, 7, 8, 9, 10, 11, 12, 13] rfl)
        exact hz
      · replace h := (if_neg hc88).symm.trans h
        refine lv_aload_n C0.hx C0.hb dL_law_617 rfl (lv_at hl 1 rfl) ?_
        refine lv_iload C0.hx C0.hb dL_law_618 (lv_at hl 12 rfl) ?_
        obtain ⟨q89, hq89, h⟩ := Option.bind_eq_some_iff.mp h
        refine h_kcalli hW (h_krunV (Sx := (x, y, o)) (As := [.int (l14)]) (rest := [.int (q87.1)]) C0 hW (c_X12_isPruned hq89) rfl ⟨tc_X12_isPruned, tn_X12, md_X12_isPruned, by decide⟩ (by omega) tm_L_227 ti_X12_isPruned ts_X12_isPruned rfl hl.1 rfl (Nat.le_of_ble_eq_true rfl) dL_law_620) (fun H locs hW => ?_)
        refine lv_if_ne (tgt := 630) C0.hx C0.hb dL_law_623 (by decide) (fun hc90 => ?_) (fun hc90 => ?_)
        · replace h := (if_neg hc90).symm.trans h
          have hz := w_l_L_law_630 (l := l) (e := e) (below := below) hfl hq1 KR C0 kt10 kt94 kt215 _ _ _ _ _ _ _ _ _ _ _ _ _ _ _ _ _ _ h hW (lv_sub hl [0, 1, 2, 3, 4, 5, 6, 7, 8, 9, 10, 11, 12, 13] rfl)
          exact hz
        · replace h := (if_pos hc90).symm.trans h
          refine lv_iconst (v := (1 : Int32)) C0.hx C0.hb dL_law_626 (by decide) ?_
          refine lv_goto (tgt := 631) C0.hx C0.hb dL_law_627 (by decide) ?_
          have hz := w_l_L_law_631 (l := l) (e := e) (below := below) hfl hq1 KR C0 kt10 kt94 kt215 _ _ _ _ _ _ _ _ _ _ _ _ _ _ _ _ _ _ _ h hW (lv_sub hl [0, 1, 2, 3, 4, 5, 6, 7, 8, 9, 10, 11, 12, 13] rfl)
          exact hz
    · replace h := (if_neg hc86).symm.trans h
      refine lv_aload_n C0.hx C0.hb dL_law_341 rfl (lv_at hl 1 rfl) ?_
      refine lv_iload C0.hx C0.hb dL_law_342 (lv_at hl 12 rfl) ?_
      refine lv_iload C0.hx C0.hb dL_law_344 (lv_at hl 16 rfl) ?_
      obtain ⟨q91, hq91, h⟩ := Option.bind_eq_some_iff.mp h
      refine h_kcalli hW (h_krunV (Sx := (x, y, o)) (As := [.int (l14), .int (l18)]) (rest := []) C0 hW (c_X12_distanceBetween hq91) rfl ⟨tc_X12_distanceBetween, tn_X12, md_X12_distanceBetween, by decide⟩ (by omega) tm_L_209 ti_X12_distanceBetween ts_X12_distanceBetween rfl hl.1 rfl (Nat.le_of_ble_eq_true rfl) dL_law_346) (fun H locs hW => ?_)
      refine lv_istore (lv' := [(19, .int (q91.1)), (0, .ref (g_st G 5)), (1, .ref (g_ad G (0))), (2, .int (l2)), (3, g_rf G (l3)), (5, g_rf G (l5)), (6, .int (l6)), (7, .int (l7)), (8, .long (l8)), (10, .int (l10)), (11, .int (l11)), (12, .int (l12)), (13, .int (l13)), (14, .int (l14)), (15, .int (l15)), (16, .int (l16)), (17, .int (l17)), (18, .int (l18))]) C0.hx C0.hb dL_law_349 hl (by decide) rfl (fun ls hl => ?_)
      refine lv_iload C0.hx C0.hb dL_law_351 (lv_at hl 14 rfl) ?_
      refine lv_aload_n C0.hx C0.hb dL_law_353 rfl (lv_at hl 2 rfl) ?_
      refine lv_iload C0.hx C0.hb dL_law_354 (lv_at hl 17 rfl) ?_
      obtain ⟨q92, hq92, h⟩ := Option.bind_eq_some_iff.mp h
      refine h_kcalli hW (h_krunV (Sx := (x, y, o)) (As := [.int (l18)]) (rest := [.int (l15)]) C0 hW (c_X12_lengthOf hq92) rfl ⟨tc_X12_lengthOf, tn_X12, md_X12_lengthOf, by decide⟩ (by omega) tm_L_192 ti_X12_lengthOf ts_X12_lengthOf rfl hl.1 rfl (Nat.le_of_ble_eq_true rfl) dL_law_356) (fun H locs hW => ?_)
      refine h_maxR C0 hW hl.1 (by show 1 ≤ 200; omega) (Nat.le_of_ble_eq_true rfl) tm_L_212 dL_law_359 ?_
      refine lv_istore (lv' := [(20, .int (g_max l15 q92)), (19, .int (q91.1)), (0, .ref (g_st G 5)), (1, .ref (g_ad G (0))), (2, .int (l2)), (3, g_rf G (l3)), (5, g_rf G (l5)), (6, .int (l6)), (7, .int (l7)), (8, .long (l8)), (10, .int (l10)), (11, .int (l11)), (12, .int (l12)), (13, .int (l13)), (14, .int (l14)), (15, .int (l15)), (16, .int (l16)), (17, .int (l17)), (18, .int (l18))]) C0.hx C0.hb dL_law_362 hl (by decide) rfl (fun ls hl => ?_)
      refine lv_aload_n C0.hx C0.hb dL_law_364 rfl (lv_at hl 3 rfl) ?_
      refine lv_iload C0.hx C0.hb dL_law_365 (lv_at hl 14 rfl) ?_
      refine lv_iconst (v := (0 : Int32)) C0.hx C0.hb dL_law_367 (by decide) ?_
      obtain ⟨q93, hq93, h⟩ := Option.bind_eq_some_iff.mp h
      refine h_kcalli hW (h_krunV (Sx := (x, y, o)) (As := [.int (l14), .int ((0 : Int32))]) (rest := []) C0 hW (c_X12_pitchAt hq93) rfl ⟨tc_X12_pitchAt, tn_X12, md_X12_pitchAt, by decide⟩ (by omega) tm_L_195 ti_X12_pitchAt ts_X12_pitchAt rfl hl.1 rfl (Nat.le_of_ble_eq_true rfl) dL_law_368) (fun H locs hW => ?_)
      refine lv_aload_n C0.hx C0.hb dL_law_371 rfl (lv_at hl 3 rfl) ?_
      refine lv_iload C0.hx C0.hb dL_law_372 (lv_at hl 18 rfl) ?_
      refine lv_iconst (v := (0 : Int32)) C0.hx C0.hb dL_law_374 (by decide) ?_
      obtain ⟨q94, hq94, h⟩ := Option.bind_eq_some_iff.mp h
      refine h_kcalli hW (h_krunV (Sx := (x, y, o)) (As := [.int (l18), .int ((0 : Int32))]) (rest := [.int (q93)]) C0 hW (c_X12_pitchAt hq94) rfl ⟨tc_X12_pitchAt, tn_X12, md_X12_pitchAt, by decide⟩ (by omega) tm_L_195 ti_X12_pitchAt ts_X12_pitchAt rfl hl.1 rfl (Nat.le_of_ble_eq_true rfl) dL_law_375) (fun H locs hW => ?_)
      obtain ⟨q95, hq95, h⟩ := Option.bind_eq_some_iff.mp h
      refine h_calli hW (h_runS (As := [.int (q93), .int (q94)]) (rest := []) C0 hW (c_l_X16_apart hq95) cy_X16_apart (by omega) tm_L_217 tz_X16_apart rfl hl.1 rfl (Nat.le_of_ble_eq_true rfl) dL_law_378) (fun H locs hW => ?_)
      refine lv_istore (lv' := [(21, .int (q95)), (20, .int (g_max l15 q92)), (19, .int (q91.1)), (0, .ref (g_st G 5)), (1, .ref (g_ad G (0))), (2, .int (l2)), (3, g_rf G (l3)), (5, g_rf G (l5)), (6, .int (l6)), (7, .int (l7)), (8, .long (l8)), (10, .int (l10)), (11, .int (l11)), (12, .int (l12)), (13, .int (l13)), (14, .int (l14)), (15, .int (l15)), (16, .int (l16)), (17, .int (l17)), (18, .int (l18))]) C0.hx C0.hb dL_law_381 hl (by decide) rfl (fun ls hl => ?_)
      refine lv_iload C0.hx C0.hb dL_law_383 (lv_at hl 1 rfl) ?_
      refine lv_iconst (v := (1 : Int32)) C0.hx C0.hb dL_law_385 (by decide) ?_
      refine lv_icmp_le (tgt := 421) C0.hx C0.hb dL_law_386 (by decide) (fun hc96 => ?_) (fun hc96 => ?_)
      · replace h := (if_pos hc96).symm.trans h
        have hz := w_l_L_law_421 (l := l) (e := e) (below := below) hfl hq1 KR C0 kt10 kt94 kt215 ih _ _ _ _ _ _ _ _ _ _ _ _ _ _ _ _ _ _ _ _ _ _ _ h hW (lv_sub hl [3, 4, 5, 6, 7, 8, 9, 10, 11, 12, 13, 14, 15, 16, 17, 18, 19, 2, 1, 0] rfl)
        exact hz
      · replace h := (if_neg hc96).symm.trans h
        refine lv_iload C0.hx C0.hb dL_law_389 (lv_at hl 0 rfl) ?_
        refine lv_aload_n C0.hx C0.hb dL_law_391 rfl (lv_at hl 4 rfl) ?_
        refine lv_iload C0.hx C0.hb dL_law_392 (lv_at hl 15 rfl) ?_
        refine lv_iload C0.hx C0.hb dL_law_394 (lv_at hl 16 rfl) ?_
        refine lv_iconst (v := (1 : Int32)) C0.hx C0.hb dL_law_396 (by decide) ?_
        refine lv_isub C0.hx C0.hb dL_law_397 ?_
        obtain ⟨q97, hq97, h⟩ := Option.bind_eq_some_iff.mp h
        refine h_kcalli hW (h_krunV (Sx := (x, y, o)) (As := [.int (l14), .int (l15 - (1 : Int32))]) (rest := [.int (q95)]) C0 hW (c_X12_pitchAt hq97) rfl ⟨tc_X12_pitchAt, tn_X12, md_X12_pitchAt, by decide⟩ (by omega) tm_L_195 ti_X12_pitchAt ts_X12_pitchAt rfl hl.1 rfl (Nat.le_of_ble_eq_true rfl) dL_law_398) (fun H locs hW => ?_)
        refine lv_aload_n C0.hx C0.hb dL_law_401 rfl (lv_at hl 4 rfl) ?_
        refine lv_iload C0.hx C0.hb dL_law_402 (lv_at hl 19 rfl) ?_
        refine lv_aload_n C0.hx C0.hb dL_law_404 rfl (lv_at hl 4 rfl) ?_
        refine lv_iload C0.hx C0.hb dL_law_405 (lv_at hl 19 rfl) ?_
        obtain ⟨q98, hq98, h⟩ := Option.bind_eq_some_iff.mp h
        refine h_kcalli hW (h_krunV (Sx := (x, y, o)) (As := [.int (l18)]) (rest := [.int (l18), .ref (g_ad G (0)), .int (q97), .int (q95)]) C0 hW (c_X12_lengthOf hq98) rfl ⟨tc_X12_lengthOf, tn_X12, md_X12_lengthOf, by decide⟩ (by omega) tm_L_192 ti_X12_lengthOf ts_X12_lengthOf rfl hl.1 rfl (Nat.le_of_ble_eq_true rfl) dL_law_407) (fun H locs hW => ?_)
        refine lv_iconst (v := (1 : Int32)) C0.hx C0.hb dL_law_410 (by decide) ?_
        refine lv_isub C0.hx C0.hb dL_law_411 ?_
        obtain ⟨q99, hq99, h⟩ := Option.bind_eq_some_iff.mp h
        refine h_kcalli hW (h_krunV (Sx := (x, y, o)) (As := [.int (l18), .int (q98 - (1 : Int32))]) (rest := [.int (q97), .int (q95)]) C0 hW (c_X12_pitchAt hq99) rfl ⟨tc_X12_pitchAt, tn_X12, md_X12_pitchAt, by decide⟩ (by omega) tm_L_195 ti_X12_pitchAt ts_X12_pitchAt rfl hl.1 rfl (Nat.le_of_ble_eq_true rfl) dL_law_412) (fun H locs hW => ?_)
        obtain ⟨q100, hq100, h⟩ := Option.bind_eq_some_iff.mp h
        refine h_calli hW (h_runS (As := [.int (q97), .int (q99)]) (rest := [.int (q95)]) C0 hW (c_l_X16_apart hq100) cy_X16_apart (by omega) tm_L_217 tz_X16_apart rfl hl.1 rfl (Nat.le_of_ble_eq_true rfl) dL_law_415) (fun H locs hW => ?_)
        refine lv_iadd C0.hx C0.hb dL_law_418 ?_
        refine lv_istore (lv' := [(21, .int (q95 + q100)), (20, .int (g_max l15 q92)), (19, .int (q91.1)), (0, .ref (g_st G 5)), (1, .ref (g_ad G (0))), (2, .int (l2)), (3, g_rf G (l3)), (5, g_rf G (l5)), (6, .int (l6)), (7, .int (l7)), (8, .long (l8)), (10, .int (l10)), (11, .int (l11)), (12, .int (l12)), (13, .int (l13)), (14, .int (l14)), (15, .int (l15)), (16, .int (l16)), (17, .int (l17)), (18, .int (l18))]) C0.hx C0.hb dL_law_419 hl (by decide) rfl (fun ls hl => ?_)
        have hz := w_l_L_law_421 (l := l) (e := e) (below := below) hfl hq1 KR C0 kt10 kt94 kt215 ih _ _ _ _ _ _ _ _ _ _ _ _ _ _ _ _ _ _ _ _ _ _ _ h hW (lv_sub hl [3, 4, 5, 6, 7, 8, 9, 10, 11, 12, 13, 14, 15, 16, 17, 18, 19, 2, 1, 0] rfl)
        exact hz
set_option maxRecDepth 100000 in
set_option maxHeartbeats 4000000 in
theorem w_l_L_law_298 {p : Program} {l : Launch} {e : Env} {s : State} {m : MethodId} {args : Array Value} {below : List Frame} {meth : Method} {c : Code} {Q : State → Prop} {G : GL} {o : Nat → Int32} {y0 : MS} {q : Int32 × CS × MS} {k10 : Int32 → CS → MS → Option (Int32 × CS × MS)} {k94 : Int32 → Nat → Nat → Int32 → Int32 → CS → MS → Option (Int32 × CS × MS)} {k215 : Int32 → Nat → Nat → Int32 → Int32 → Int64 → Int32 → Int32 → Int32 → Int32 → Int32 → CS → MS → Option (Int32 × CS × MS)} {k233 : Int32 → Nat → Nat → Int32 → Int32 → Int64 → Int32 → Int32 → Int32 → Int32 → Int32 → Int32 → Int32 → CS → MS → Option (Int32 × CS × MS)} (hfl : l.stackTraces = false) (hq1 : q.1 = 1) (KR : ∀ (x : CS) (y : MS) (o : Nat → Int32) (pc : Nat) (H : Heap) (locs : List Loc) (ls : Array Slot), h_W G y0 (x, y, o) s.heap H locs → decode cL_law pc = .ok (.ireturn, 1) → W p l e (h_lv 200 y0) s m args below meth c H locs (h_nx y - h_nx y0) (h_sl y - h_sl y0) Q (F0 m pc ls [.int 1])) (C0 : g_X G (List.range 120) p s m args meth c cL_law 22 RL ret) (kt10 : ∀ (l2 : Int32) (x : CS) (y : MS) (H : Heap) (locs : List Loc) (ls : Array Slot), k10 l2 x y = some q → h_W G y0 (x, y, o) s.heap H locs → lv_has ls 22 [(0, .ref (g_st G 5)), (1, .ref (g_ad G (0))), (2, .int (l2))] → W p l e (h_lv 200 y0) s m args below meth c H locs (h_nx y - h_nx y0) (h_sl y - h_sl y0) Q (F0 m 10 ls [])) (kt94 : ∀ (l2 : Int32) (l3 : Nat) (l5 : Nat) (l6 : Int32) (l7 : Int32) (x : CS) (y : MS) (H : Heap) (locs : List Loc) (ls : Array Slot), k94 l2 l3 l5 l6 l7 x y = some q → h_W G y0 (x, y, o) s.heap H locs → lv_has ls 22 [(0, .ref (g_st G 5)), (1, .ref (g_ad G (0))), (2, .int (l2)), (3, g_rf G (l3)), (5, g_rf G (l5)), (6, .int (l6)), (7, .int (l7))] → W p l e (h_lv 200 y0) s m args below meth c H locs (h_nx y - h_nx y0) (h_sl y - h_sl y0) Q (F0 m 94 ls [])) (kt215 : ∀ (l2 : Int32) (l3 : Nat) (l5 : Nat) (l6 : Int32) (l7 : Int32) (l8 : Int64) (l10 : Int32) (l11 : Int32) (l12 : Int32) (l13 : Int32) (l14 : Int32) (x : CS) (y : MS) (H : Heap) (locs : List Loc) (ls : Array Slot), k215 l2 l3 l5 l6 l7 l8 l10 l11 l12 l13 l14 x y = some q → h_W G y0 (x, y, o) s.heap H locs → lv_has ls 22 [(0, .ref (g_st G 5)), (1, .ref (g_ad G (0))), (2, .int (l2)), (3, g_rf G (l3)), (5, g_rf G (l5)), (6, .int (l6)), (7, .int (l7)), (8, .long (l8)), (10, .int (l10)), (11, .int (l11)), (12, .int (l12)), (13, .int (l13)), (14, .int (l14))] → W p l e (h_lv 200 y0) s m args below meth c H locs (h_nx y - h_nx y0) (h_sl y - h_sl y0) Q (F0 m 215 ls [])) (kt233 : ∀ (l2 : Int32) (l3 : Nat) (l5 : Nat) (l6 : Int32) (l7 : Int32) (l8 : Int64) (l10 : Int32) (l11 : Int32) (l12 : Int32) (l13 : Int32) (l14 : Int32) (l15 : Int32) (l16 : Int32) (x : CS) (y : MS) (H : Heap) (locs : List Loc) (ls : Array Slot), k233 l2 l3 l5 l6 l7 l8 l10 l11 l12 l13 l14 l15 l16 x y = some q → h_W G y0 (x, y, o) s.heap H locs → lv_has ls 22 [(0, .ref (g_st G 5)), (1, .ref (g_ad G (0))), (2, .int (l2)), (3, g_rf G (l3)), (5, g_rf G (l5)), (6, .int (l6)), (7, .int (l7)), (8, .long (l8)), (10, .int (l10)), (11, .int (l11)), (12, .int (l12)), (13, .int (l13)), (14, .int (l14)), (15, .int (l15)), (16, .int (l16))] → W p l e (h_lv 200 y0) s m args below meth c H locs (h_nx y - h_nx y0) (h_sl y - h_sl y0) Q (F0 m 233 ls [])) : ∀  (l2 : Int32) (l3 : Nat) (l5 : Nat) (l6 : Int32) (l7 : Int32) (l8 : Int64) (l10 : Int32) (l11 : Int32) (l12 : Int32) (l13 : Int32) (l14 : Int32) (l15 : Int32) (l16 : Int32) (s0 : Int32) (s1 : Int32) (x : CS) (y : MS) (H : Heap) (locs : List Loc) (ls : Array Slot), f_l_L_law_298 (g_L G) (g_xs G) k10 k94 k215 k233 l2 l3 l5 l6 l7 l8 l10 l11 l12 l13 l14 l15 l16 s0 s1 x y = some q → h_W G y0 (x, y, o) s.heap H locs → lv_has ls 22 [(0, .ref (g_st G 5)), (1, .ref (g_ad G (0))), (2, .int (l2)), (3, g_rf G (l3)), (5, g_rf G (l5)), (6, .int (l6)), (7, .int (l7)), (8, .long (l8)), (10, .int (l10)), (11, .int (l11)), (12, .int (l12)), (13, .int (l13)), (14, .int (l14)), (15, .int (l15)), (16, .int (l16))] → W p l e (h_lv 200 y0) s m args below meth c H locs (h_nx y - h_nx y0) (h_sl y - h_sl y0) Q (F0 m 298 ls [.int (s0), .int (s1)]) := by
  intro l2 l3 l5 l6 l7 l8 l10 l11 l12 l13 l14 l15 l16 s0 s1 x y H locs ls h hW hl
  unfold f_l_L_law_298 at h
  refine lv_icmp_eq (tgt := 303) C0.hx C0.hb dL_law_298 (by decide) (fun hc101 => ?_) (fun hc101 => ?_)
  · replace h := (if_pos hc101).symm.trans h
    refine lv_iinc (v := l16 + (1 : Int32)) (lv' := [(16, .int (l16 + (1 : Int32))), (0, .ref (g_st G 5)), (1, .ref (g_ad G (0))), (2, .int (l2)), (3, g_rf G (l3)), (5, g_rf G (l5)), (6, .int (l6)), (7, .int (l7)), (8, .long (l8)), (10, .int (l10)), (11, .int (l11)), (12, .int (l12)), (13, .int (l13)), (14, .int (l14)), (15, .int (l15))]) C0.hx C0.hb dL_law_303 hl (k := 14) rfl rfl (by decide) rfl (fun ls hl => ?_)
    refine lv_goto (tgt := 233) C0.hx C0.hb dL_law_306 (by decide) ?_
    have hz := kt233 _ _ _ _ _ _ _ _ _ _ _ _ _ _ _ _ _ _ h hW (lv_sub hl [1, 2, 3, 4, 5, 6, 7, 8, 9, 10, 11, 12, 13, 14, 0] rfl)
    exact hz
  · replace h := (if_neg hc101).symm.trans h
    refine lv_iconst (v := (0 : Int32)) C0.hx C0.hb dL_law_301 (by decide) ?_
    obtain rfl := Option.some.inj h
    exact h_lret hq1 (KR _ _ _ _ _ _ _ hW dL_law_302)
set_option maxRecDepth 100000 in
set_option maxHeartbeats 4000000 in
theorem w_l_L_law_233 {p : Program} {l : Launch} {e : Env} {s : State} {m : MethodId} {args : Array Value} {below : List Frame} {meth : Method} {c : Code} {Q : State → Prop} {G : GL} {o : Nat → Int32} {y0 : MS} {q : Int32 × CS × MS} {k10 : Int32 → CS → MS → Option (Int32 × CS × MS)} {k94 : Int32 → Nat → Nat → Int32 → Int32 → CS → MS → Option (Int32 × CS × MS)} {k215 : Int32 → Nat → Nat → Int32 → Int32 → Int64 → Int32 → Int32 → Int32 → Int32 → Int32 → CS → MS → Option (Int32 × CS × MS)} (hfl : l.stackTraces = false) (hq1 : q.1 = 1) (KR : ∀ (x : CS) (y : MS) (o : Nat → Int32) (pc : Nat) (H : Heap) (locs : List Loc) (ls : Array Slot), h_W G y0 (x, y, o) s.heap H locs → decode cL_law pc = .ok (.ireturn, 1) → W p l e (h_lv 200 y0) s m args below meth c H locs (h_nx y - h_nx y0) (h_sl y - h_sl y0) Q (F0 m pc ls [.int 1])) (C0 : g_X G (List.range 120) p s m args meth c cL_law 22 RL ret) (kt10 : ∀ (l2 : Int32) (x : CS) (y : MS) (H : Heap) (locs : List Loc) (ls : Array Slot), k10 l2 x y = some q → h_W G y0 (x, y, o) s.heap H locs → lv_has ls 22 [(0, .ref (g_st G 5)), (1, .ref (g_ad G (0))), (2, .int (l2))] → W p l e (h_lv 200 y0) s m args below meth c H locs (h_nx y - h_nx y0) (h_sl y - h_sl y0) Q (F0 m 10 ls [])) (kt94 : ∀ (l2 : Int32) (l3 : Nat) (l5 : Nat) (l6 : Int32) (l7 : Int32) (x : CS) (y : MS) (H : Heap) (locs : List Loc) (ls : Array Slot), k94 l2 l3 l5 l6 l7 x y = some q → h_W G y0 (x, y, o) s.heap H locs → lv_has ls 22 [(0, .ref (g_st G 5)), (1, .ref (g_ad G (0))), (2, .int (l2)), (3, g_rf G (l3)), (5, g_rf G (l5)), (6, .int (l6)), (7, .int (l7))] → W p l e (h_lv 200 y0) s m args below meth c H locs (h_nx y - h_nx y0) (h_sl y - h_sl y0) Q (F0 m 94 ls [])) (kt215 : ∀ (l2 : Int32) (l3 : Nat) (l5 : Nat) (l6 : Int32) (l7 : Int32) (l8 : Int64) (l10 : Int32) (l11 : Int32) (l12 : Int32) (l13 : Int32) (l14 : Int32) (x : CS) (y : MS) (H : Heap) (locs : List Loc) (ls : Array Slot), k215 l2 l3 l5 l6 l7 l8 l10 l11 l12 l13 l14 x y = some q → h_W G y0 (x, y, o) s.heap H locs → lv_has ls 22 [(0, .ref (g_st G 5)), (1, .ref (g_ad G (0))), (2, .int (l2)), (3, g_rf G (l3)), (5, g_rf G (l5)), (6, .int (l6)), (7, .int (l7)), (8, .long (l8)), (10, .int (l10)), (11, .int (l11)), (12, .int (l12)), (13, .int (l13)), (14, .int (l14))] → W p l e (h_lv 200 y0) s m args below meth c H locs (h_nx y - h_nx y0) (h_sl y - h_sl y0) Q (F0 m 215 ls [])) : ∀ (n : Nat) (l2 : Int32) (l3 : Nat) (l5 : Nat) (l6 : Int32) (l7 : Int32) (l8 : Int64) (l10 : Int32) (l11 : Int32) (l12 : Int32) (l13 : Int32) (l14 : Int32) (l15 : Int32) (l16 : Int32) (x : CS) (y : MS) (H : Heap) (locs : List Loc) (ls : Array Slot), f_l_L_law_233 (g_L G) (g_xs G) k10 k94 k215 n l2 l3 l5 l6 l7 l8 l10 l11 l12 l13 l14 l15 l16 x y = some q → h_W G y0 (x, y, o) s.heap H locs → lv_has ls 22 [(0, .ref (g_st G 5)), (1, .ref (g_ad G (0))), (2, .int (l2)), (3, g_rf G (l3)), (5, g_rf G (l5)), (6, .int (l6)), (7, .int (l7)), (8, .long (l8)), (10, .int (l10)), (11, .int (l11)), (12, .int (l12)), (13, .int (l13)), (14, .int (l14)), (15, .int (l15)), (16, .int (l16))] → W p l e (h_lv 200 y0) s m args below meth c H locs (h_nx y - h_nx y0) (h_sl y - h_sl y0) Q (F0 m 233 ls []) := by
  intro n
  induction n with
  | zero =>
    intro l2 l3 l5 l6 l7 l8 l10 l11 l12 l13 l14 l15 l16 x y H locs ls h hW hl
    exact absurd h (by simp [f_l_L_law_233])
  | succ n ih =>
    intro l2 l3 l5 l6 l7 l8 l10 l11 l12 l13 l14 l15 l16 x y H locs ls h hW hl
    unfold f_l_L_law_233 at h
    refine lv_iload C0.hx C0.hb dL_law_233 (lv_at hl 14 rfl) ?_
    refine lv_iload C0.hx C0.hb dL_law_235 (lv_at hl 13 rfl) ?_
    refine lv_icmp_ge (tgt := 309) C0.hx C0.hb dL_law_237 (by decide) (fun hc68 => ?_) (fun hc68 => ?_)
    · replace h := (if_pos hc68).symm.trans h
      refine lv_iload C0.hx C0.hb dL_law_309 (lv_at hl 5 rfl) ?_
      refine lv_iconst (v := (1 : Int32)) C0.hx C0.hb dL_law_311 (by decide) ?_
      refine lv_icmp_le (tgt := 324) C0.hx C0.hb dL_law_312 (by decide) (fun hc69 => ?_) (fun hc69 => ?_)
      · replace h := (if_pos hc69).symm.trans h
        refine lv_iload C0.hx C0.hb dL_law_324 (lv_at hl 12 rfl) ?_
        refine lv_istore (lv' := [(16, .int (l14)), (0, .ref (g_st G 5)), (1, .ref (g_ad G (0))), (2, .int (l2)), (3, g_rf G (l3)), (5, g_rf G (l5)), (6, .int (l6)), (7, .int (l7)), (8, .long (l8)), (10, .int (l10)), (11, .int (l11)), (12, .int (l12)), (13, .int (l13)), (14, .int (l14)), (15, .int (l15))]) C0.hx C0.hb dL_law_326 hl (by decide) rfl (fun ls hl => ?_)
        refine lv_iconst (v := (0 : Int32)) C0.hx C0.hb dL_law_328 (by decide) ?_
        refine lv_istore (lv' := [(17, .int ((0 : Int32))), (16, .int (l14)), (0, .ref (g_st G 5)), (1, .ref (g_ad G (0))), (2, .int (l2)), (3, g_rf G (l3)), (5, g_rf G (l5)), (6, .int (l6)), (7, .int (l7)), (8, .long (l8)), (10, .int (l10)), (11, .int (l11)), (12, .int (l12)), (13, .int (l13)), (14, .int (l14)), (15, .int (l15))]) C0.hx C0.hb dL_law_329 hl (by decide) rfl (fun ls hl => ?_)
        refine lv_iconst (v := (0 : Int32)) C0.hx C0.hb dL_law_331 (by decide) ?_
        refine lv_istore (lv' := [(18, .int ((0 : Int32))), (17, .int ((0 : Int32))), (16, .int (l14)), (0, .ref (g_st G 5)), (1, .ref (g_ad G (0))), (2, .int (l2)), (3, g_rf G (l3)), (5, g_rf G (l5)), (6, .int (l6)), (7, .int (l7)), (8, .long (l8)), (10, .int (l10)), (11, .int (l11)), (12, .int (l12)), (13, .int (l13)), (14, .int (l14)), (15, .int (l15))]) C0.hx C0.hb dL_law_332 hl (by decide) rfl (fun ls hl => ?_)
        have hz := w_l_L_law_334 (l := l) (e := e) (below := below) hfl hq1 KR C0 kt10 kt94 kt215 g_fuel _ _ _ _ _ _ _ _ _ _ _ _ _ _ _ _ _ _ _ _ h hW (lv_sub hl [3, 4, 5, 6, 7, 8, 9, 10, 11, 12, 13, 14, 15, 16, 2, 1, 0] rfl)
        exact hz
      · replace h := (if_neg hc69).symm.trans h
        refine lv_aload_n C0.hx C0.hb dL_law_315 rfl (lv_at hl 1 rfl) ?_
        refine lv_iload C0.hx C0.hb dL_law_316 (lv_at hl 12 rfl) ?_
        obtain ⟨q70, hq70, h⟩ := Option.bind_eq_some_iff.mp h
        refine h_kcalli hW (h_krunV (Sx := (x, y, o)) (As := [.int (l14)]) (rest := []) C0 hW (c_X12_nearestTo hq70) rfl ⟨tc_X12_nearestTo, tn_X12, md_X12_nearestTo, by decide⟩ (by omega) tm_L_206 ti_X12_nearestTo ts_X12_nearestTo rfl hl.1 rfl (Nat.le_of_ble_eq_true rfl) dL_law_318) (fun H locs hW => ?_)
        refine lv_goto (tgt := 326) C0.hx C0.hb dL_law_321 (by decide) ?_
        refine lv_istore (lv' := [(16, .int (q70.1)), (0, .ref (g_st G 5)), (1, .ref (g_ad G (0))), (2, .int (l2)), (3, g_rf G (l3)), (5, g_rf G (l5)), (6, .int (l6)), (7, .int (l7)), (8, .long (l8)), (10, .int (l10)), (11, .int (l11)), (12, .int (l12)), (13, .int (l13)), (14, .int (l14)), (15, .int (l15))]) C0.hx C0.hb dL_law_326 hl (by decide) rfl (fun ls hl => ?_)
        refine lv_iconst (v := (0 : Int32)) C0.hx C0.hb dL_law_328 (by decide) ?_
        refine lv_istore (lv' := [(17, .int ((0 : Int32))), (16, .int (q70.1)), (0, .ref (g_st G 5)), (1, .ref (g_ad G (0))), (2, .int (l2)), (3, g_rf G (l3)), (5, g_rf G (l5)), (6, .int (l6)), (7, .int (l7)), (8, .long (l8)), (10, .int (l10)), (11, .int (l11)), (12, .int (l12)), (13, .int (l13)), (14, .int (l14)), (15, .int (l15))]) C0.hx C0.hb dL_law_329 hl (by decide) rfl (fun ls hl => ?_)
        refine lv_iconst (v := (0 : Int32)) C0.hx C0.hb dL_law_331 (by decide) ?_
        refine lv_istore (lv' := [(18, .int ((0 : Int32))), (17, .int ((0 : Int32))), (16, .int (q70.1)), (0, .ref (g_st G 5)), (1, .ref (g_ad G (0))), (2, .int (l2)), (3, g_rf G (l3)), (5, g_rf G (l5)), (6, .int (l6)), (7, .int (l7)), (8, .long (l8)), (10, .int (l10)), (11, .int (l11)), (12, .int (l12)), (13, .int (l13)), (14, .int (l14)), (15, .int (l15))]) C0.hx C0.hb dL_law_332 hl (by decide) rfl (fun ls hl => ?_)
        have hz := w_l_L_law_334 (l := l) (e := e) (below := below) hfl hq1 KR C0 kt10 kt94 kt215 g_fuel _ _ _ _ _ _ _ _ _ _ _ _ _ _ _ _ _ _ _ _ h hW (lv_sub hl [3, 4, 5, 6, 7, 8, 9, 10, 11, 12, 13, 14, 15, 16, 2, 1, 0] rfl)
        exact hz
    · replace h := (if_neg hc68).symm.trans h
      refine lv_aload_n C0.hx C0.hb dL_law_240 rfl (lv_at hl 1 rfl) ?_
      refine lv_iload C0.hx C0.hb dL_law_241 (lv_at hl 12 rfl) ?_
      refine lv_iload C0.hx C0.hb dL_law_243 (lv_at hl 14 rfl) ?_
      obtain ⟨q71, hq71, h⟩ := Option.bind_eq_some_iff.mp h
      refine h_kcalli hW (h_krunV (Sx := (x, y, o)) (As := [.int (l14), .int (l16)]) (rest := []) C0 hW (c_X12_pitchAt hq71) rfl ⟨tc_X12_pitchAt, tn_X12, md_X12_pitchAt, by decide⟩ (by omega) tm_L_195 ti_X12_pitchAt ts_X12_pitchAt rfl hl.1 rfl (Nat.le_of_ble_eq_true rfl) dL_law_245) (fun H locs hW => ?_)
      refine lv_istore (lv' := [(17, .int (q71)), (0, .ref (g_st G 5)), (1, .ref (g_ad G (0))), (2, .int (l2)), (3, g_rf G (l3)), (5, g_rf G (l5)), (6, .int (l6)), (7, .int (l7)), (8, .long (l8)), (10, .int (l10)), (11, .int (l11)), (12, .int (l12)), (13, .int (l13)), (14, .int (l14)), (15, .int (l15)), (16, .int (l16))]) C0.hx C0.hb dL_law_248 hl (by decide) rfl (fun ls hl => ?_)
      refine lv_iload C0.hx C0.hb dL_law_250 (lv_at hl 0 rfl) ?_
      refine lv_if_lt (tgt := 301) C0.hx C0.hb dL_law_252 (by decide) (fun hc72 => ?_) (fun hc72 => ?_)
      · replace h := (if_pos hc72).symm.trans h
        refine lv_iconst (v := (0 : Int32)) C0.hx C0.hb dL_law_301 (by decide) ?_
        obtain rfl := Option.some.inj h
        exact h_lret hq1 (KR _ _ _ _ _ _ _ hW dL_law_302)
      · replace h := (if_neg hc72).symm.trans h
        refine lv_iload C0.hx C0.hb dL_law_255 (lv_at hl 0 rfl) ?_
        refine lv_bipush (v := (40 : Int32)) C0.hx C0.hb dL_law_257 (by decide) ?_
        refine lv_icmp_gt (tgt := 301) C0.hx C0.hb dL_law_259 (by decide) (fun hc73 => ?_) (fun hc73 => ?_)
        · replace h := (if_pos hc73).symm.trans h
          refine lv_iconst (v := (0 : Int32)) C0.hx C0.hb dL_law_301 (by decide) ?_
          obtain rfl := Option.some.inj h
          exact h_lret hq1 (KR _ _ _ _ _ _ _ hW dL_law_302)
        · replace h := (if_neg hc73).symm.trans h
          refine lv_aload_n C0.hx C0.hb dL_law_262 rfl (lv_at hl 2 rfl) ?_
          refine lv_iload C0.hx C0.hb dL_law_263 (lv_at hl 13 rfl) ?_
          refine lv_iload C0.hx C0.hb dL_law_265 (lv_at hl 15 rfl) ?_
          obtain ⟨q74, hq74, h⟩ := Option.bind_eq_some_iff.mp h
          refine h_kcalli hW (h_krunV (Sx := (x, y, o)) (As := [.int (l14), .int (l16)]) (rest := []) C0 hW (c_X12_contourAt hq74) rfl ⟨tc_X12_contourAt, tn_X12, md_X12_contourAt, by decide⟩ (by omega) tm_L_198 ti_X12_contourAt ts_X12_contourAt rfl hl.1 rfl (Nat.le_of_ble_eq_true rfl) dL_law_267) (fun H locs hW => ?_)
          refine lv_iload C0.hx C0.hb dL_law_270 (lv_at hl 15 rfl) ?_
          refine lv_iconst (v := (1 : Int32)) C0.hx C0.hb dL_law_272 (by decide) ?_
          refine lv_iadd C0.hx C0.hb dL_law_273 ?_
          refine lv_iload C0.hx C0.hb dL_law_274 (lv_at hl 14 rfl) ?_
          refine lv_icmp_ne (tgt := 283) C0.hx C0.hb dL_law_276 (by decide) (fun hc75 => ?_) (fun hc75 => ?_)
          · replace h := (if_neg hc75).symm.trans h
            refine lv_aload_n C0.hx C0.hb dL_law_283 rfl (lv_at hl 2 rfl) ?_
            refine lv_iload C0.hx C0.hb dL_law_284 (lv_at hl 13 rfl) ?_
            refine lv_iload C0.hx C0.hb dL_law_286 (lv_at hl 15 rfl) ?_
            refine lv_iconst (v := (1 : Int32)) C0.hx C0.hb dL_law_288 (by decide) ?_
            refine lv_iadd C0.hx C0.hb dL_law_289 ?_
            obtain ⟨q76, hq76, h⟩ := Option.bind_eq_some_iff.mp h
            refine h_kcalli hW (h_krunV (Sx := (x, y, o)) (As := [.int (l14), .int (l16 + (1 : Int32))]) (rest := [.int (q74)]) C0 hW (c_X12_pitchAt hq76) rfl ⟨tc_X12_pitchAt, tn_X12, md_X12_pitchAt, by decide⟩ (by omega) tm_L_195 ti_X12_pitchAt ts_X12_pitchAt rfl hl.1 rfl (Nat.le_of_ble_eq_true rfl) dL_law_290) (fun H locs hW => ?_)
            refine lv_iload C0.hx C0.hb dL_law_293 (lv_at hl 0 rfl) ?_
            obtain ⟨q77, hq77, h⟩ := Option.bind_eq_some_iff.mp h
            refine h_calli hW (h_runS (As := [.int (q76), .int (q71)]) (rest := [.int (q74)]) C0 hW (c_l_J6_compare_7cf53 hq77) cy_J6_compare_7cf53 (by omega) tm_L_201 tz_J6_compare_7cf53 rfl hl.1 rfl (Nat.le_of_ble_eq_true rfl) dL_law_295) (fun H locs hW => ?_)
            have hz := w_l_L_law_298 (l := l) (e := e) (below := below) hfl hq1 KR C0 kt10 kt94 kt215 ih _ _ _ _ _ _ _ _ _ _ _ _ _ _ _ _ _ _ _ _ h hW (lv_sub hl [1, 2, 3, 4, 5, 6, 7, 8, 9, 10, 11, 12, 13, 14, 15] rfl)
            exact hz
          · replace h := (if_pos hc75).symm.trans h
            refine lv_iconst (v := (0 : Int32)) C0.hx C0.hb dL_law_279 (by decide) ?_
            refine lv_goto (tgt := 298) C0.hx C0.hb dL_law_280 (by decide) ?_
            have hz := w_l_L_law_298 (l := l) (e := e) (below := below) hfl hq1 KR C0 kt10 kt94 kt215 ih _ _ _ _ _ _ _ _ _ _ _ _ _ _ _ _ _ _ _ _ h hW (lv_sub hl [1, 2, 3, 4, 5, 6, 7, 8, 9, 10, 11, 12, 13, 14, 15] rfl)
            exact hz
set_option maxRecDepth 100000 in
set_option maxHeartbeats 4000000 in
theorem w_l_L_law_215 {p : Program} {l : Launch} {e : Env} {s : State} {m : MethodId} {args : Array Value} {below : List Frame} {meth : Method} {c : Code} {Q : State → Prop} {G : GL} {o : Nat → Int32} {y0 : MS} {q : Int32 × CS × MS} {k10 : Int32 → CS → MS → Option (Int32 × CS × MS)} {k94 : Int32 → Nat → Nat → Int32 → Int32 → CS → MS → Option (Int32 × CS × MS)} (hfl : l.stackTraces = false) (hq1 : q.1 = 1) (KR : ∀ (x : CS) (y : MS) (o : Nat → Int32) (pc : Nat) (H : Heap) (locs : List Loc) (ls : Array Slot), h_W G y0 (x, y, o) s.heap H locs → decode cL_law pc = .ok (.ireturn, 1) → W p l e (h_lv 200 y0) s m args below meth c H locs (h_nx y - h_nx y0) (h_sl y - h_sl y0) Q (F0 m pc ls [.int 1])) (C0 : g_X G (List.range 120) p s m args meth c cL_law 22 RL ret) (kt10 : ∀ (l2 : Int32) (x : CS) (y : MS) (H : Heap) (locs : List Loc) (ls : Array Slot), k10 l2 x y = some q → h_W G y0 (x, y, o) s.heap H locs → lv_has ls 22 [(0, .ref (g_st G 5)), (1, .ref (g_ad G (0))), (2, .int (l2))] → W p l e (h_lv 200 y0) s m args below meth c H locs (h_nx y - h_nx y0) (h_sl y - h_sl y0) Q (F0 m 10 ls [])) (kt94 : ∀ (l2 : Int32) (l3 : Nat) (l5 : Nat) (l6 : Int32) (l7 : Int32) (x : CS) (y : MS) (H : Heap) (locs : List Loc) (ls : Array Slot), k94 l2 l3 l5 l6 l7 x y = some q → h_W G y0 (x, y, o) s.heap H locs → lv_has ls 22 [(0, .ref (g_st G 5)), (1, .ref (g_ad G (0))), (2, .int (l2)), (3, g_rf G (l3)), (5, g_rf G (l5)), (6, .int (l6)), (7, .int (l7))] → W p l e (h_lv 200 y0) s m args below meth c H locs (h_nx y - h_nx y0) (h_sl y - h_sl y0) Q (F0 m 94 ls [])) : ∀ (n : Nat) (l2 : Int32) (l3 : Nat) (l5 : Nat) (l6 : Int32) (l7 : Int32) (l8 : Int64) (l10 : Int32) (l11 : Int32) (l12 : Int32) (l13 : Int32) (l14 : Int32) (x : CS) (y : MS) (H : Heap) (locs : List Loc) (ls : Array Slot), f_l_L_law_215 (g_L G) (g_xs G) k10 k94 n l2 l3 l5 l6 l7 l8 l10 l11 l12 l13 l14 x y = some q → h_W G y0 (x, y, o) s.heap H locs → lv_has ls 22 [(0, .ref (g_st G 5)), (1, .ref (g_ad G (0))), (2, .int (l2)), (3, g_rf G (l3)), (5, g_rf G (l5)), (6, .int (l6)), (7, .int (l7)), (8, .long (l8)), (10, .int (l10)), (11, .int (l11)), (12, .int (l12)), (13, .int (l13)), (14, .int (l14))] → W p l e (h_lv 200 y0) s m args below meth c H locs (h_nx y - h_nx y0) (h_sl y - h_sl y0) Q (F0 m 215 ls []) := by
  intro n
  induction n with
  | zero =>
    intro l2 l3 l5 l6 l7 l8 l10 l11 l12 l13 l14 x y H locs ls h hW hl
    exact absurd h (by simp [f_l_L_law_215])
  | succ n ih =>
    intro l2 l3 l5 l6 l7 l8 l10 l11 l12 l13 l14 x y H locs ls h hW hl
    unfold f_l_L_law_215 at h
    refine lv_iload C0.hx C0.hb dL_law_215 (lv_at hl 12 rfl) ?_
    refine lv_iload C0.hx C0.hb dL_law_217 (lv_at hl 5 rfl) ?_
    refine lv_icmp_ge (tgt := 790) C0.hx C0.hb dL_law_219 (by decide) (fun hc36 => ?_) (fun hc36 => ?_)
    · replace h := (if_pos hc36).symm.trans h
      refine lv_iload C0.hx C0.hb dL_law_790 (lv_at hl 9 rfl) ?_
      refine lv_if_lt (tgt := 824) C0.hx C0.hb dL_law_792 (by decide) (fun hc37 => ?_) (fun hc37 => ?_)
      · replace h := (if_pos hc37).symm.trans h
        have hz := w_l_L_law_824 (l := l) (e := e) (below := below) hfl hq1 KR C0 kt10 kt94 _ _ _ _ _ _ _ _ _ _ _ _ _ h hW (lv_sub hl [0, 1, 2, 3, 4, 5, 6, 7, 8, 9] rfl)
        exact hz
      · replace h := (if_neg hc37).symm.trans h
        refine lv_iload C0.hx C0.hb dL_law_795 (lv_at hl 10 rfl) ?_
        refine lv_iload C0.hx C0.hb dL_law_797 (lv_at hl 11 rfl) ?_
        refine lv_if_ge (tgt := 806) C0.hx C0.hb dL_law_799 (by decide) (fun hc38 => ?_) (fun hc38 => ?_)
        · replace h := (if_pos hc38).symm.trans h
          refine lv_aload_n C0.hx C0.hb dL_law_806 rfl (lv_at hl 1 rfl) ?_
          refine lv_iload C0.hx C0.hb dL_law_807 (lv_at hl 11 rfl) ?_
          obtain ⟨q39, hq39, h⟩ := Option.bind_eq_some_iff.mp h
          refine h_kcalli hW (h_krunV (Sx := (x, y, o)) (As := [.int (l13)]) (rest := [.int (l12)]) C0 hW (c_X12_distanceTo hq39) rfl ⟨tc_X12_distanceTo, tn_X12, md_X12_distanceTo, by decide⟩ (by omega) tm_L_233 ti_X12_distanceTo ts_X12_distanceTo rfl hl.1 rfl (Nat.le_of_ble_eq_true rfl) dL_law_809) (fun H locs hW => ?_)
          refine lv_aload_n C0.hx C0.hb dL_law_812 rfl (lv_at hl 1 rfl) ?_
          refine lv_iload C0.hx C0.hb dL_law_813 (lv_at hl 9 rfl) ?_
          obtain ⟨q40, hq40, h⟩ := Option.bind_eq_some_iff.mp h
          refine h_kcalli hW (h_krunV (Sx := (x, y, o)) (As := [.int (l11)]) (rest := [.int (q39), .int (l12)]) C0 hW (c_X12_distanceTo hq40) rfl ⟨tc_X12_distanceTo, tn_X12, md_X12_distanceTo, by decide⟩ (by omega) tm_L_233 ti_X12_distanceTo ts_X12_distanceTo rfl hl.1 rfl (Nat.le_of_ble_eq_true rfl) dL_law_815) (fun H locs hW => ?_)
          refine lv_isub C0.hx C0.hb dL_law_818 ?_
          have hz := w_l_L_law_819 (l := l) (e := e) (below := below) hfl hq1 KR C0 kt10 kt94 _ _ _ _ _ _ _ _ _ _ _ _ _ _ _ h hW (lv_sub hl [0, 1, 2, 3, 4, 5, 6, 7, 8, 9] rfl)
          exact hz
        · replace h := (if_neg hc38).symm.trans h
          refine lv_iconst (v := (-1 : Int32)) C0.hx C0.hb dL_law_802 (by decide) ?_
          refine lv_goto (tgt := 819) C0.hx C0.hb dL_law_803 (by decide) ?_
          have hz := w_l_L_law_819 (l := l) (e := e) (below := below) hfl hq1 KR C0 kt10 kt94 _ _ _ _ _ _ _ _ _ _ _ _ _ _ _ h hW (lv_sub hl [0, 1, 2, 3, 4, 5, 6, 7, 8, 9] rfl)
          exact hz
    · replace h := (if_neg hc36).symm.trans h
      refine lv_aload_n C0.hx C0.hb dL_law_222 rfl (lv_at hl 1 rfl) ?_
      refine lv_iload C0.hx C0.hb dL_law_223 (lv_at hl 12 rfl) ?_
      obtain ⟨q41, hq41, h⟩ := Option.bind_eq_some_iff.mp h
      refine h_kcalli hW (h_krunV (Sx := (x, y, o)) (As := [.int (l14)]) (rest := []) C0 hW (c_X12_lengthOf hq41) rfl ⟨tc_X12_lengthOf, tn_X12, md_X12_lengthOf, by decide⟩ (by omega) tm_L_192 ti_X12_lengthOf ts_X12_lengthOf rfl hl.1 rfl (Nat.le_of_ble_eq_true rfl) dL_law_225) (fun H locs hW => ?_)
      refine lv_istore (lv' := [(15, .int (q41)), (0, .ref (g_st G 5)), (1, .ref (g_ad G (0))), (2, .int (l2)), (3, g_rf G (l3)), (5, g_rf G (l5)), (6, .int (l6)), (7, .int (l7)), (8, .long (l8)), (10, .int (l10)), (11, .int (l11)), (12, .int (l12)), (13, .int (l13)), (14, .int (l14))]) C0.hx C0.hb dL_law_228 hl (by decide) rfl (fun ls hl => ?_)
      refine lv_iconst (v := (0 : Int32)) C0.hx C0.hb dL_law_230 (by decide) ?_
      refine lv_istore (lv' := [(16, .int ((0 : Int32))), (15, .int (q41)), (0, .ref (g_st G 5)), (1, .ref (g_ad G (0))), (2, .int (l2)), (3, g_rf G (l3)), (5, g_rf G (l5)), (6, .int (l6)), (7, .int (l7)), (8, .long (l8)), (10, .int (l10)), (11, .int (l11)), (12, .int (l12)), (13, .int (l13)), (14, .int (l14))]) C0.hx C0.hb dL_law_231 hl (by decide) rfl (fun ls hl => ?_)
      have hz := w_l_L_law_233 (l := l) (e := e) (below := below) hfl hq1 KR C0 kt10 kt94 ih g_fuel _ _ _ _ _ _ _ _ _ _ _ _ _ _ _ _ _ _ h hW (lv_sub hl [2, 3, 4, 5, 6, 7, 8, 9, 10, 11, 12, 13, 14, 1, 0] rfl)
      exact hz
set_option maxRecDepth 100000 in
set_option maxHeartbeats 4000000 in
theorem w_l_L_law_204 {p : Program} {l : Launch} {e : Env} {s : State} {m : MethodId} {args : Array Value} {below : List Frame} {meth : Method} {c : Code} {Q : State → Prop} {G : GL} {o : Nat → Int32} {y0 : MS} {q : Int32 × CS × MS} {k10 : Int32 → CS → MS → Option (Int32 × CS × MS)} {k94 : Int32 → Nat → Nat → Int32 → Int32 → CS → MS → Option (Int32 × CS × MS)} (hfl : l.stackTraces = false) (hq1 : q.1 = 1) (KR : ∀ (x : CS) (y : MS) (o : Nat → Int32) (pc : Nat) (H : Heap) (locs : List Loc) (ls : Array Slot), h_W G y0 (x, y, o) s.heap H locs → decode cL_law pc = .ok (.ireturn, 1) → W p l e (h_lv 200 y0) s m args below meth c H locs (h_nx y - h_nx y0) (h_sl y - h_sl y0) Q (F0 m pc ls [.int 1])) (C0 : g_X G (List.range 120) p s m args meth c cL_law 22 RL ret) (kt10 : ∀ (l2 : Int32) (x : CS) (y : MS) (H : Heap) (locs : List Loc) (ls : Array Slot), k10 l2 x y = some q → h_W G y0 (x, y, o) s.heap H locs → lv_has ls 22 [(0, .ref (g_st G 5)), (1, .ref (g_ad G (0))), (2, .int (l2))] → W p l e (h_lv 200 y0) s m args below meth c H locs (h_nx y - h_nx y0) (h_sl y - h_sl y0) Q (F0 m 10 ls [])) (kt94 : ∀ (l2 : Int32) (l3 : Nat) (l5 : Nat) (l6 : Int32) (l7 : Int32) (x : CS) (y : MS) (H : Heap) (locs : List Loc) (ls : Array Slot), k94 l2 l3 l5 l6 l7 x y = some q → h_W G y0 (x, y, o) s.heap H locs → lv_has ls 22 [(0, .ref (g_st G 5)), (1, .ref (g_ad G (0))), (2, .int (l2)), (3, g_rf G (l3)), (5, g_rf G (l5)), (6, .int (l6)), (7, .int (l7))] → W p l e (h_lv 200 y0) s m args below meth c H locs (h_nx y - h_nx y0) (h_sl y - h_sl y0) Q (F0 m 94 ls [])) : ∀  (l2 : Int32) (l3 : Nat) (l5 : Nat) (l6 : Int32) (l7 : Int32) (l8 : Int64) (l10 : Int32) (l11 : Int32) (l12 : Int32) (s0 : Int32) (s1 : Int32) (x : CS) (y : MS) (H : Heap) (locs : List Loc) (ls : Array Slot), f_l_L_law_204 (g_L G) (g_xs G) k10 k94 l2 l3 l5 l6 l7 l8 l10 l11 l12 s0 s1 x y = some q → h_W G y0 (x, y, o) s.heap H locs → lv_has ls 22 [(0, .ref (g_st G 5)), (1, .ref (g_ad G (0))), (2, .int (l2)), (3, g_rf G (l3)), (5, g_rf G (l5)), (6, .int (l6)), (7, .int (l7)), (8, .long (l8)), (10, .int (l10)), (11, .int (l11)), (12, .int (l12))] → W p l e (h_lv 200 y0) s m args below meth c H locs (h_nx y - h_nx y0) (h_sl y - h_sl y0) Q (F0 m 204 ls [.int (s0), .int (s1)]) := by
  intro l2 l3 l5 l6 l7 l8 l10 l11 l12 s0 s1 x y H locs ls h hW hl
  unfold f_l_L_law_204 at h
  refine lv_icmp_eq (tgt := 209) C0.hx C0.hb dL_law_204 (by decide) (fun hc35 => ?_) (fun hc35 => ?_)
  · replace h := (if_pos hc35).symm.trans h
    refine lv_iconst (v := (-1 : Int32)) C0.hx C0.hb dL_law_209 (by decide) ?_
    refine lv_istore (lv' := [(13, .int ((-1 : Int32))), (0, .ref (g_st G 5)), (1, .ref (g_ad G (0))), (2, .int (l2)), (3, g_rf G (l3)), (5, g_rf G (l5)), (6, .int (l6)), (7, .int (l7)), (8, .long (l8)), (10, .int (l10)), (11, .int (l11)), (12, .int (l12))]) C0.hx C0.hb dL_law_210 hl (by decide) rfl (fun ls hl => ?_)
    refine lv_iconst (v := (0 : Int32)) C0.hx C0.hb dL_law_212 (by decide) ?_
    refine lv_istore (lv' := [(14, .int ((0 : Int32))), (13, .int ((-1 : Int32))), (0, .ref (g_st G 5)), (1, .ref (g_ad G (0))), (2, .int (l2)), (3, g_rf G (l3)), (5, g_rf G (l5)), (6, .int (l6)), (7, .int (l7)), (8, .long (l8)), (10, .int (l10)), (11, .int (l11)), (12, .int (l12))]) C0.hx C0.hb dL_law_213 hl (by decide) rfl (fun ls hl => ?_)
    have hz := w_l_L_law_215 (l := l) (e := e) (below := below) hfl hq1 KR C0 kt10 kt94 g_fuel _ _ _ _ _ _ _ _ _ _ _ _ _ _ _ _ h hW (lv_sub hl [2, 3, 4, 5, 6, 7, 8, 9, 10, 11, 12, 1, 0] rfl)
    exact hz
  · replace h := (if_neg hc35).symm.trans h
    refine lv_iconst (v := (0 : Int32)) C0.hx C0.hb dL_law_207 (by decide) ?_
    obtain rfl := Option.some.inj h
    exact h_lret hq1 (KR _ _ _ _ _ _ _ hW dL_law_208)
set_option maxRecDepth 100000 in
set_option maxHeartbeats 4000000 in
theorem w_l_L_law_192 {p : Program} {l : Launch} {e : Env} {s : State} {m : MethodId} {args : Array Value} {below : List Frame} {meth : Method} {c : Code} {Q : State → Prop} {G : GL} {o : Nat → Int32} {y0 : MS} {q : Int32 × CS × MS} {k10 : Int32 → CS → MS → Option (Int32 × CS × MS)} {k94 : Int32 → Nat → Nat → Int32 → Int32 → CS → MS → Option (Int32 × CS × MS)} (hfl : l.stackTraces = false) (hq1 : q.1 = 1) (KR : ∀ (x : CS) (y : MS) (o : Nat → Int32) (pc : Nat) (H : Heap) (locs : List Loc) (ls : Array Slot), h_W G y0 (x, y, o) s.heap H locs → decode cL_law pc = .ok (.ireturn, 1) → W p l e (h_lv 200 y0) s m args below meth c H locs (h_nx y - h_nx y0) (h_sl y - h_sl y0) Q (F0 m pc ls [.int 1])) (C0 : g_X G (List.range 120) p s m args meth c cL_law 22 RL ret) (kt10 : ∀ (l2 : Int32) (x : CS) (y : MS) (H : Heap) (locs : List Loc) (ls : Array Slot), k10 l2 x y = some q → h_W G y0 (x, y, o) s.heap H locs → lv_has ls 22 [(0, .ref (g_st G 5)), (1, .ref (g_ad G (0))), (2, .int (l2))] → W p l e (h_lv 200 y0) s m args below meth c H locs (h_nx y - h_nx y0) (h_sl y - h_sl y0) Q (F0 m 10 ls [])) (kt94 : ∀ (l2 : Int32) (l3 : Nat) (l5 : Nat) (l6 : Int32) (l7 : Int32) (x : CS) (y : MS) (H : Heap) (locs : List Loc) (ls : Array Slot), k94 l2 l3 l5 l6 l7 x y = some q → h_W G y0 (x, y, o) s.heap H locs → lv_has ls 22 [(0, .ref (g_st G 5)), (1, .ref (g_ad G (0))), (2, .int (l2)), (3, g_rf G (l3)), (5, g_rf G (l5)), (6, .int (l6)), (7, .int (l7))] → W p l e (h_lv 200 y0) s m args below meth c H locs (h_nx y - h_nx y0) (h_sl y - h_sl y0) Q (F0 m 94 ls [])) : ∀  (l2 : Int32) (l3 : Nat) (l5 : Nat) (l6 : Int32) (l7 : Int32) (l8 : Int64) (l10 : Int32) (l11 : Int32) (l12 : Int32) (s0 : Int32) (x : CS) (y : MS) (H : Heap) (locs : List Loc) (ls : Array Slot), f_l_L_law_192 (g_L G) (g_xs G) k10 k94 l2 l3 l5 l6 l7 l8 l10 l11 l12 s0 x y = some q → h_W G y0 (x, y, o) s.heap H locs → lv_has ls 22 [(0, .ref (g_st G 5)), (1, .ref (g_ad G (0))), (2, .int (l2)), (3, g_rf G (l3)), (5, g_rf G (l5)), (6, .int (l6)), (7, .int (l7)), (8, .long (l8)), (10, .int (l10)), (11, .int (l11)), (12, .int (l12))] → W p l e (h_lv 200 y0) s m args below meth c H locs (h_nx y - h_nx y0) (h_sl y - h_sl y0) Q (F0 m 192 ls [.int (s0)]) := by
  intro l2 l3 l5 l6 l7 l8 l10 l11 l12 s0 x y H locs ls h hW hl
  unfold f_l_L_law_192 at h
  refine lv_iload C0.hx C0.hb dL_law_192 (lv_at hl 10 rfl) ?_
  refine lv_bipush (v := (-2 : Int32)) C0.hx C0.hb dL_law_194 (by decide) ?_
  refine lv_icmp_ne (tgt := 203) C0.hx C0.hb dL_law_196 (by decide) (fun hc34 => ?_) (fun hc34 => ?_)
  · replace h := (if_neg hc34).symm.trans h
    refine lv_iconst (v := (0 : Int32)) C0.hx C0.hb dL_law_203 (by decide) ?_
    have hz := w_l_L_law_204 (l := l) (e := e) (below := below) hfl hq1 KR C0 kt10 kt94 _ _ _ _ _ _ _ _ _ _ _ _ _ _ _ _ h hW (lv_sub hl [0, 1, 2, 3, 4, 5, 6, 7, 8, 9, 10] rfl)
    exact hz
  · replace h := (if_pos hc34).symm.trans h
    refine lv_iconst (v := (1 : Int32)) C0.hx C0.hb dL_law_199 (by decide) ?_
    refine lv_goto (tgt := 204) C0.hx C0.hb dL_law_200 (by decide) ?_
    have hz := w_l_L_law_204 (l := l) (e := e) (below := below) hfl hq1 KR C0 kt10 kt94 _ _ _ _ _ _ _ _ _ _ _ _ _ _ _ _ h hW (lv_sub hl [0, 1, 2, 3, 4, 5, 6, 7, 8, 9, 10] rfl)
    exact hz
set_option maxRecDepth 100000 in
set_option maxHeartbeats 4000000 in
theorem w_l_L_law_179 {p : Program} {l : Launch} {e : Env} {s : State} {m : MethodId} {args : Array Value} {below : List Frame} {meth : Method} {c : Code} {Q : State → Prop} {G : GL} {o : Nat → Int32} {y0 : MS} {q : Int32 × CS × MS} {k10 : Int32 → CS → MS → Option (Int32 × CS × MS)} {k94 : Int32 → Nat → Nat → Int32 → Int32 → CS → MS → Option (Int32 × CS × MS)} (hfl : l.stackTraces = false) (hq1 : q.1 = 1) (KR : ∀ (x : CS) (y : MS) (o : Nat → Int32) (pc : Nat) (H : Heap) (locs : List Loc) (ls : Array Slot), h_W G y0 (x, y, o) s.heap H locs → decode cL_law pc = .ok (.ireturn, 1) → W p l e (h_lv 200 y0) s m args below meth c H locs (h_nx y - h_nx y0) (h_sl y - h_sl y0) Q (F0 m pc ls [.int 1])) (C0 : g_X G (List.range 120) p s m args meth c cL_law 22 RL ret) (kt10 : ∀ (l2 : Int32) (x : CS) (y : MS) (H : Heap) (locs : List Loc) (ls : Array Slot), k10 l2 x y = some q → h_W G y0 (x, y, o) s.heap H locs → lv_has ls 22 [(0, .ref (g_st G 5)), (1, .ref (g_ad G (0))), (2, .int (l2))] → W p l e (h_lv 200 y0) s m args below meth c H locs (h_nx y - h_nx y0) (h_sl y - h_sl y0) Q (F0 m 10 ls [])) (kt94 : ∀ (l2 : Int32) (l3 : Nat) (l5 : Nat) (l6 : Int32) (l7 : Int32) (x : CS) (y : MS) (H : Heap) (locs : List Loc) (ls : Array Slot), k94 l2 l3 l5 l6 l7 x y = some q → h_W G y0 (x, y, o) s.heap H locs → lv_has ls 22 [(0, .ref (g_st G 5)), (1, .ref (g_ad G (0))), (2, .int (l2)), (3, g_rf G (l3)), (5, g_rf G (l5)), (6, .int (l6)), (7, .int (l7))] → W p l e (h_lv 200 y0) s m args below meth c H locs (h_nx y - h_nx y0) (h_sl y - h_sl y0) Q (F0 m 94 ls [])) : ∀  (l2 : Int32) (l3 : Nat) (l5 : Nat) (l6 : Int32) (l7 : Int32) (l8 : Int64) (l10 : Int32) (l11 : Int32) (l12 : Int32) (s0 : Int32) (s1 : Int32) (x : CS) (y : MS) (H : Heap) (locs : List Loc) (ls : Array Slot), f_l_L_law_179 (g_L G) (g_xs G) k10 k94 l2 l3 l5 l6 l7 l8 l10 l11 l12 s0 s1 x y = some q → h_W G y0 (x, y, o) s.heap H locs → lv_has ls 22 [(0, .ref (g_st G 5)), (1, .ref (g_ad G (0))), (2, .int (l2)), (3, g_rf G (l3)), (5, g_rf G (l5)), (6, .int (l6)), (7, .int (l7)), (8, .long (l8)), (10, .int (l10)), (11, .int (l11)), (12, .int (l12))] → W p l e (h_lv 200 y0) s m args below meth c H locs (h_nx y - h_nx y0) (h_sl y - h_sl y0) Q (F0 m 179 ls [.int (s0), .int (s1)]) := by
  intro l2 l3 l5 l6 l7 l8 l10 l11 l12 s0 s1 x y H locs ls h hW hl
  unfold f_l_L_law_179 at h
  refine lv_icmp_ne (tgt := 207) C0.hx C0.hb dL_law_179 (by decide) (fun hc32 => ?_) (fun hc32 => ?_)
  · replace h := (if_neg hc32).symm.trans h
    refine lv_iconst (v := (0 : Int32)) C0.hx C0.hb dL_law_207 (by decide) ?_
    obtain rfl := Option.some.inj h
    exact h_lret hq1 (KR _ _ _ _ _ _ _ hW dL_law_208)
  · replace h := (if_pos hc32).symm.trans h
    refine lv_iload C0.hx C0.hb dL_law_182 (lv_at hl 9 rfl) ?_
    refine lv_if_ge (tgt := 191) C0.hx C0.hb dL_law_184 (by decide) (fun hc33 => ?_) (fun hc33 => ?_)
    · replace h := (if_pos hc33).symm.trans h
      refine lv_iconst (v := (0 : Int32)) C0.hx C0.hb dL_law_191 (by decide) ?_
      have hz := w_l_L_law_192 (l := l) (e := e) (below := below) hfl hq1 KR C0 kt10 kt94 _ _ _ _ _ _ _ _ _ _ _ _ _ _ _ h hW (lv_sub hl [0, 1, 2, 3, 4, 5, 6, 7, 8, 9, 10] rfl)
      exact hz
    · replace h := (if_neg hc33).symm.trans h
      refine lv_iconst (v := (1 : Int32)) C0.hx C0.hb dL_law_187 (by decide) ?_
      refine lv_goto (tgt := 192) C0.hx C0.hb dL_law_188 (by decide) ?_
      have hz := w_l_L_law_192 (l := l) (e := e) (below := below) hfl hq1 KR C0 kt10 kt94 _ _ _ _ _ _ _ _ _ _ _ _ _ _ _ h hW (lv_sub hl [0, 1, 2, 3, 4, 5, 6, 7, 8, 9, 10] rfl)
      exact hz
set_option maxRecDepth 100000 in
set_option maxHeartbeats 4000000 in
theorem w_l_L_law_174 {p : Program} {l : Launch} {e : Env} {s : State} {m : MethodId} {args : Array Value} {below : List Frame} {meth : Method} {c : Code} {Q : State → Prop} {G : GL} {o : Nat → Int32} {y0 : MS} {q : Int32 × CS × MS} {k10 : Int32 → CS → MS → Option (Int32 × CS × MS)} {k94 : Int32 → Nat → Nat → Int32 → Int32 → CS → MS → Option (Int32 × CS × MS)} (hfl : l.stackTraces = false) (hq1 : q.1 = 1) (KR : ∀ (x : CS) (y : MS) (o : Nat → Int32) (pc : Nat) (H : Heap) (locs : List Loc) (ls : Array Slot), h_W G y0 (x, y, o) s.heap H locs → decode cL_law pc = .ok (.ireturn, 1) → W p l e (h_lv 200 y0) s m args below meth c H locs (h_nx y - h_nx y0) (h_sl y - h_sl y0) Q (F0 m pc ls [.int 1])) (C0 : g_X G (List.range 120) p s m args meth c cL_law 22 RL ret) (kt10 : ∀ (l2 : Int32) (x : CS) (y : MS) (H : Heap) (locs : List Loc) (ls : Array Slot), k10 l2 x y = some q → h_W G y0 (x, y, o) s.heap H locs → lv_has ls 22 [(0, .ref (g_st G 5)), (1, .ref (g_ad G (0))), (2, .int (l2))] → W p l e (h_lv 200 y0) s m args below meth c H locs (h_nx y - h_nx y0) (h_sl y - h_sl y0) Q (F0 m 10 ls [])) (kt94 : ∀ (l2 : Int32) (l3 : Nat) (l5 : Nat) (l6 : Int32) (l7 : Int32) (x : CS) (y : MS) (H : Heap) (locs : List Loc) (ls : Array Slot), k94 l2 l3 l5 l6 l7 x y = some q → h_W G y0 (x, y, o) s.heap H locs → lv_has ls 22 [(0, .ref (g_st G 5)), (1, .ref (g_ad G (0))), (2, .int (l2)), (3, g_rf G (l3)), (5, g_rf G (l5)), (6, .int (l6)), (7, .int (l7))] → W p l e (h_lv 200 y0) s m args below meth c H locs (h_nx y - h_nx y0) (h_sl y - h_sl y0) Q (F0 m 94 ls [])) : ∀  (l2 : Int32) (l3 : Nat) (l5 : Nat) (l6 : Int32) (l7 : Int32) (l8 : Int64) (l10 : Int32) (l11 : Int32) (l12 : Int32) (s0 : Int32) (x : CS) (y : MS) (H : Heap) (locs : List Loc) (ls : Array Slot), f_l_L_law_174 (g_L G) (g_xs G) k10 k94 l2 l3 l5 l6 l7 l8 l10 l11 l12 s0 x y = some q → h_W G y0 (x, y, o) s.heap H locs → lv_has ls 22 [(0, .ref (g_st G 5)), (1, .ref (g_ad G (0))), (2, .int (l2)), (3, g_rf G (l3)), (5, g_rf G (l5)), (6, .int (l6)), (7, .int (l7)), (8, .long (l8)), (10, .int (l10)), (11, .int (l11)), (12, .int (l12))] → W p l e (h_lv 200 y0) s m args below meth c H locs (h_nx y - h_nx y0) (h_sl y - h_sl y0) Q (F0 m 174 ls [.int (s0)]) := by
  intro l2 l3 l5 l6 l7 l8 l10 l11 l12 s0 x y H locs ls h hW hl
  unfold f_l_L_law_174 at h
  refine lv_iconst (v := (1 : Int32)) C0.hx C0.hb dL_law_174 (by decide) ?_
  refine lv_goto (tgt := 179) C0.hx C0.hb dL_law_175 (by decide) ?_
  have hz := w_l_L_law_179 (l := l) (e := e) (below := below) hfl hq1 KR C0 kt10 kt94 _ _ _ _ _ _ _ _ _ _ _ _ _ _ _ _ h hW (lv_sub hl [0, 1, 2, 3, 4, 5, 6, 7, 8, 9, 10] rfl)
  exact hz
set_option maxRecDepth 100000 in
set_option maxHeartbeats 4000000 in
theorem w_l_L_law_162 {p : Program} {l : Launch} {e : Env} {s : State} {m : MethodId} {args : Array Value} {below : List Frame} {meth : Method} {c : Code} {Q : State → Prop} {G : GL} {o : Nat → Int32} {y0 : MS} {q : Int32 × CS × MS} {k10 : Int32 → CS → MS → Option (Int32 × CS × MS)} {k94 : Int32 → Nat → Nat → Int32 → Int32 → CS → MS → Option (Int32 × CS × MS)} (hfl : l.stackTraces = false) (hq1 : q.1 = 1) (KR : ∀ (x : CS) (y : MS) (o : Nat → Int32) (pc : Nat) (H : Heap) (locs : List Loc) (ls : Array Slot), h_W G y0 (x, y, o) s.heap H locs → decode cL_law pc = .ok (.ireturn, 1) → W p l e (h_lv 200 y0) s m args below meth c H locs (h_nx y - h_nx y0) (h_sl y - h_sl y0) Q (F0 m pc ls [.int 1])) (C0 : g_X G (List.range 120) p s m args meth c cL_law 22 RL ret) (kt10 : ∀ (l2 : Int32) (x : CS) (y : MS) (H : Heap) (locs : List Loc) (ls : Array Slot), k10 l2 x y = some q → h_W G y0 (x, y, o) s.heap H locs → lv_has ls 22 [(0, .ref (g_st G 5)), (1, .ref (g_ad G (0))), (2, .int (l2))] → W p l e (h_lv 200 y0) s m args below meth c H locs (h_nx y - h_nx y0) (h_sl y - h_sl y0) Q (F0 m 10 ls [])) (kt94 : ∀ (l2 : Int32) (l3 : Nat) (l5 : Nat) (l6 : Int32) (l7 : Int32) (x : CS) (y : MS) (H : Heap) (locs : List Loc) (ls : Array Slot), k94 l2 l3 l5 l6 l7 x y = some q → h_W G y0 (x, y, o) s.heap H locs → lv_has ls 22 [(0, .ref (g_st G 5)), (1, .ref (g_ad G (0))), (2, .int (l2)), (3, g_rf G (l3)), (5, g_rf G (l5)), (6, .int (l6)), (7, .int (l7))] → W p l e (h_lv 200 y0) s m args below meth c H locs (h_nx y - h_nx y0) (h_sl y - h_sl y0) Q (F0 m 94 ls [])) : ∀  (l2 : Int32) (l3 : Nat) (l5 : Nat) (l6 : Int32) (l7 : Int32) (l8 : Int64) (l10 : Int32) (l11 : Int32) (l12 : Int32) (s0 : Int32) (x : CS) (y : MS) (H : Heap) (locs : List Loc) (ls : Array Slot), f_l_L_law_162 (g_L G) (g_xs G) k10 k94 l2 l3 l5 l6 l7 l8 l10 l11 l12 s0 x y = some q → h_W G y0 (x, y, o) s.heap H locs → lv_has ls 22 [(0, .ref (g_st G 5)), (1, .ref (g_ad G (0))), (2, .int (l2)), (3, g_rf G (l3)), (5, g_rf G (l5)), (6, .int (l6)), (7, .int (l7)), (8, .long (l8)), (10, .int (l10)), (11, .int (l11)), (12, .int (l12))] → W p l e (h_lv 200 y0) s m args below meth c H locs (h_nx y - h_nx y0) (h_sl y - h_sl y0) Q (F0 m 162 ls [.int (s0)]) := by
  intro l2 l3 l5 l6 l7 l8 l10 l11 l12 s0 x y H locs ls h hW hl
  unfold f_l_L_law_162 at h
  refine lv_iload C0.hx C0.hb dL_law_162 (lv_at hl 8 rfl) ?_
  refine lv_if_eq (tgt := 174) C0.hx C0.hb dL_law_164 (by decide) (fun hc29 => ?_) (fun hc29 => ?_)
  · replace h := (if_pos hc29).symm.trans h
    have hz := w_l_L_law_174 (l := l) (e := e) (below := below) hfl hq1 KR C0 kt10 kt94 _ _ _ _ _ _ _ _ _ _ _ _ _ _ _ h hW (lv_sub hl [0, 1, 2, 3, 4, 5, 6, 7, 8, 9, 10] rfl)
    exact hz
  · replace h := (if_neg hc29).symm.trans h
    refine lv_aload_n C0.hx C0.hb dL_law_167 rfl (lv_at hl 1 rfl) ?_
    obtain ⟨q30, hq30, h⟩ := Option.bind_eq_some_iff.mp h
    refine h_kcalli hW (h_krunV (Sx := (x, y, o)) (As := []) (rest := [.int (s0)]) C0 hW (c_X12_keptWords hq30) rfl ⟨tc_X12_keptWords, tn_X12, md_X12_keptWords, by decide⟩ (by omega) tm_L_189 ti_X12_keptWords ts_X12_keptWords rfl hl.1 rfl (Nat.le_of_ble_eq_true rfl) dL_law_168) (fun H locs hW => ?_)
    refine lv_if_ne (tgt := 178) C0.hx C0.hb dL_law_171 (by decide) (fun hc31 => ?_) (fun hc31 => ?_)
    · replace h := (if_neg hc31).symm.trans h
      refine lv_iconst (v := (0 : Int32)) C0.hx C0.hb dL_law_178 (by decide) ?_
      have hz := w_l_L_law_179 (l := l) (e := e) (below := below) hfl hq1 KR C0 kt10 kt94 _ _ _ _ _ _ _ _ _ _ _ _ _ _ _ _ h hW (lv_sub hl [0, 1, 2, 3, 4, 5, 6, 7, 8, 9, 10] rfl)
      exact hz
    · replace h := (if_pos hc31).symm.trans h
      have hz := w_l_L_law_174 (l := l) (e := e) (below := below) hfl hq1 KR C0 kt10 kt94 _ _ _ _ _ _ _ _ _ _ _ _ _ _ _ h hW (lv_sub hl [0, 1, 2, 3, 4, 5, 6, 7, 8, 9, 10] rfl)
      exact hz
set_option maxRecDepth 100000 in
set_option maxHeartbeats 4000000 in
theorem w_l_L_law_104 {p : Program} {l : Launch} {e : Env} {s : State} {m : MethodId} {args : Array Value} {below : List Frame} {meth : Method} {c : Code} {Q : State → Prop} {G : GL} {o : Nat → Int32} {y0 : MS} {q : Int32 × CS × MS} {k10 : Int32 → CS → MS → Option (Int32 × CS × MS)} {k94 : Int32 → Nat → Nat → Int32 → Int32 → CS → MS → Option (Int32 × CS × MS)} (hfl : l.stackTraces = false) (hq1 : q.1 = 1) (KR : ∀ (x : CS) (y : MS) (o : Nat → Int32) (pc : Nat) (H : Heap) (locs : List Loc) (ls : Array Slot), h_W G y0 (x, y, o) s.heap H locs → decode cL_law pc = .ok (.ireturn, 1) → W p l e (h_lv 200 y0) s m args below meth c H locs (h_nx y - h_nx y0) (h_sl y - h_sl y0) Q (F0 m pc ls [.int 1])) (C0 : g_X G (List.range 120) p s m args meth c cL_law 22 RL ret) (kt10 : ∀ (l2 : Int32) (x : CS) (y : MS) (H : Heap) (locs : List Loc) (ls : Array Slot), k10 l2 x y = some q → h_W G y0 (x, y, o) s.heap H locs → lv_has ls 22 [(0, .ref (g_st G 5)), (1, .ref (g_ad G (0))), (2, .int (l2))] → W p l e (h_lv 200 y0) s m args below meth c H locs (h_nx y - h_nx y0) (h_sl y - h_sl y0) Q (F0 m 10 ls [])) (kt94 : ∀ (l2 : Int32) (l3 : Nat) (l5 : Nat) (l6 : Int32) (l7 : Int32) (x : CS) (y : MS) (H : Heap) (locs : List Loc) (ls : Array Slot), k94 l2 l3 l5 l6 l7 x y = some q → h_W G y0 (x, y, o) s.heap H locs → lv_has ls 22 [(0, .ref (g_st G 5)), (1, .ref (g_ad G (0))), (2, .int (l2)), (3, g_rf G (l3)), (5, g_rf G (l5)), (6, .int (l6)), (7, .int (l7))] → W p l e (h_lv 200 y0) s m args below meth c H locs (h_nx y - h_nx y0) (h_sl y - h_sl y0) Q (F0 m 94 ls [])) : ∀ (n : Nat) (l2 : Int32) (l3 : Nat) (l5 : Nat) (l6 : Int32) (l7 : Int32) (l8 : Int32) (x : CS) (y : MS) (H : Heap) (locs : List Loc) (ls : Array Slot), f_l_L_law_104 (g_L G) (g_xs G) k10 k94 n l2 l3 l5 l6 l7 l8 x y = some q → h_W G y0 (x, y, o) s.heap H locs → lv_has ls 22 [(0, .ref (g_st G 5)), (1, .ref (g_ad G (0))), (2, .int (l2)), (3, g_rf G (l3)), (5, g_rf G (l5)), (6, .int (l6)), (7, .int (l7)), (8, .int (l8))] → W p l e (h_lv 200 y0) s m args below meth c H locs (h_nx y - h_nx y0) (h_sl y - h_sl y0) Q (F0 m 104 ls []) := by
  intro n
  induction n with
  | zero =>
    intro l2 l3 l5 l6 l7 l8 x y H locs ls h hW hl
    exact absurd h (by simp [f_l_L_law_104])
  | succ n ih =>
    intro l2 l3 l5 l6 l7 l8 x y H locs ls h hW hl
    unfold f_l_L_law_104 at h
    refine lv_iload C0.hx C0.hb dL_law_104 (lv_at hl 7 rfl) ?_
    refine lv_iconst (v := (3 : Int32)) C0.hx C0.hb dL_law_106 (by decide) ?_
    refine lv_icmp_ge (tgt := 128) C0.hx C0.hb dL_law_107 (by decide) (fun hc21 => ?_) (fun hc21 => ?_)
    · replace h := (if_pos hc21).symm.trans h
      refine lv_aload_n C0.hx C0.hb dL_law_128 rfl (lv_at hl 1 rfl) ?_
      obtain ⟨q22, hq22, h⟩ := Option.bind_eq_some_iff.mp h
      refine h_kcalll hW (h_krunV (Sx := (x, y, o)) (As := []) (rest := []) C0 hW (c_X12_digest hq22) rfl ⟨tc_X12_digest, tn_X12, md_X12_digest, by decide⟩ (by omega) tm_L_176 ti_X12_digest ts_X12_digest rfl hl.1 rfl (Nat.le_of_ble_eq_true rfl) dL_law_129) (fun H locs hW => ?_)
      refine lv_lstore (lv' := [(8, .long (q22.1)), (0, .ref (g_st G 5)), (1, .ref (g_ad G (0))), (2, .int (l2)), (3, g_rf G (l3)), (5, g_rf G (l5)), (6, .int (l6)), (7, .int (l7))]) C0.hx C0.hb dL_law_132 hl (by decide) rfl (fun ls hl => ?_)
      refine lv_aload_n C0.hx C0.hb dL_law_134 rfl (lv_at hl 2 rfl) ?_
      obtain ⟨q23, hq23, h⟩ := Option.bind_eq_some_iff.mp h
      refine h_kcalli hW (h_krunV (Sx := (x, y, o)) (As := []) (rest := []) C0 hW (c_X12_heardBeats hq23) rfl ⟨tc_X12_heardBeats, tn_X12, md_X12_heardBeats, by decide⟩ (by omega) tm_L_180 ti_X12_heardBeats ts_X12_heardBeats rfl hl.1 rfl (Nat.le_of_ble_eq_true rfl) dL_law_135) (fun H locs hW => ?_)
      refine lv_istore (lv' := [(10, .int (q23)), (8, .long (q22.1)), (0, .ref (g_st G 5)), (1, .ref (g_ad G (0))), (2, .int (l2)), (3, g_rf G (l3)), (5, g_rf G (l5)), (6, .int (l6)), (7, .int (l7))]) C0.hx C0.hb dL_law_138 hl (by decide) rfl (fun ls hl => ?_)
      refine lv_aload_n C0.hx C0.hb dL_law_140 rfl (lv_at hl 3 rfl) ?_
      obtain ⟨q24, hq24, h⟩ := Option.bind_eq_some_iff.mp h
      refine h_calli hW (h_runSW (As := [.ref (g_ad G (0))]) (rest := []) C0 hW (c_l_L_meant hfl hq24) tc_L_meant tn_L md_L_meant (by decide) (by omega) tm_L_183 tz_L_meant rfl hl.1 rfl (Nat.le_of_ble_eq_true rfl) dL_law_141) (fun H locs hW => ?_)
      refine lv_istore (lv' := [(11, .int (q24.1)), (10, .int (q23)), (8, .long (q22.1)), (0, .ref (g_st G 5)), (1, .ref (g_ad G (0))), (2, .int (l2)), (3, g_rf G (l3)), (5, g_rf G (l5)), (6, .int (l6)), (7, .int (l7))]) C0.hx C0.hb dL_law_144 hl (by decide) rfl (fun ls hl => ?_)
      refine lv_aload_n C0.hx C0.hb dL_law_146 rfl (lv_at hl 4 rfl) ?_
      obtain ⟨q25, hq25, h⟩ := Option.bind_eq_some_iff.mp h
      refine h_calli hW (h_runSW (As := [.ref (g_ad G (0))]) (rest := []) C0 hW (c_l_L_surety hfl hq25) tc_L_surety tn_L md_L_surety (by decide) (by omega) tm_L_187 tz_L_surety rfl hl.1 rfl (Nat.le_of_ble_eq_true rfl) dL_law_147) (fun H locs hW => ?_)
      refine lv_istore (lv' := [(12, .int (q25.1)), (11, .int (q24.1)), (10, .int (q23)), (8, .long (q22.1)), (0, .ref (g_st G 5)), (1, .ref (g_ad G (0))), (2, .int (l2)), (3, g_rf G (l3)), (5, g_rf G (l5)), (6, .int (l6)), (7, .int (l7))]) C0.hx C0.hb dL_law_150 hl (by decide) rfl (fun ls hl => ?_)
      refine lv_iload C0.hx C0.hb dL_law_152 (lv_at hl 1 rfl) ?_
      refine lv_if_ge (tgt := 161) C0.hx C0.hb dL_law_154 (by decide) (fun hc26 => ?_) (fun hc26 => ?_)
      · replace h := (if_pos hc26).symm.trans h
        refine lv_iconst (v := (0 : Int32)) C0.hx C0.hb dL_law_161 (by decide) ?_
        have hz := w_l_L_law_162 (l := l) (e := e) (below := below) hfl hq1 KR C0 kt10 kt94 _ _ _ _ _ _ _ _ _ _ _ _ _ _ _ h hW (lv_sub hl [4, 5, 6, 7, 8, 9, 10, 3, 2, 1, 0] rfl)
        exact hz
      · replace h := (if_neg hc26).symm.trans h
        refine lv_iconst (v := (1 : Int32)) C0.hx C0.hb dL_law_157 (by decide) ?_
        refine lv_goto (tgt := 162) C0.hx C0.hb dL_law_158 (by decide) ?_
        have hz := w_l_L_law_162 (l := l) (e := e) (below := below) hfl hq1 KR C0 kt10 kt94 _ _ _ _ _ _ _ _ _ _ _ _ _ _ _ h hW (lv_sub hl [4, 5, 6, 7, 8, 9, 10, 3, 2, 1, 0] rfl)
        exact hz
    · replace h := (if_neg hc21).symm.trans h
      refine lv_aload_n C0.hx C0.hb dL_law_110 rfl (lv_at hl 1 rfl) ?_
      refine h_aload C0.hx C0.hb dL_law_111 (lv_at hl 4 rfl) ?_
      refine h_aload_n C0.hx C0.hb dL_law_113 rfl (lv_at hl 3 rfl) ?_
      obtain ⟨q27, hq27, h⟩ := Option.bind_eq_some_iff.mp h
      refine h_calli hW (h_runSW (As := [.ref (g_ad G (0)), g_rf G (l5), g_rf G (l3)]) (rest := []) C0 hW (c_l_L_act hfl hq27) tc_L_act tn_L md_L_act (by decide) (by omega) tm_L_172 tz_L_act rfl hl.1 rfl (Nat.le_of_ble_eq_true rfl) dL_law_114) (fun H locs hW => ?_)
      refine lv_if_ne (tgt := 122) C0.hx C0.hb dL_law_117 (by decide) (fun hc28 => ?_) (fun hc28 => ?_)
      · replace h := (if_neg hc28).symm.trans h
        refine lv_iinc (v := l8 + (1 : Int32)) (lv' := [(8, .int (l8 + (1 : Int32))), (0, .ref (g_st G 5)), (1, .ref (g_ad G (0))), (2, .int (l2)), (3, g_rf G (l3)), (5, g_rf G (l5)), (6, .int (l6)), (7, .int (l7))]) C0.hx C0.hb dL_law_122 hl (k := 7) rfl rfl (by decide) rfl (fun ls hl => ?_)
        refine lv_goto (tgt := 104) C0.hx C0.hb dL_law_125 (by decide) ?_
        have hz := ih _ _ _ _ _ _ _ _ _ _ _ h hW (lv_sub hl [1, 2, 3, 4, 5, 6, 7, 0] rfl)
        exact hz
      · replace h := (if_pos hc28).symm.trans h
        refine lv_iconst (v := (0 : Int32)) C0.hx C0.hb dL_law_120 (by decide) ?_
        obtain rfl := Option.some.inj h
        exact h_lret hq1 (KR _ _ _ _ _ _ _ hW dL_law_121)
set_option maxRecDepth 100000 in
set_option maxHeartbeats 4000000 in
theorem w_l_L_law_94 {p : Program} {l : Launch} {e : Env} {s : State} {m : MethodId} {args : Array Value} {below : List Frame} {meth : Method} {c : Code} {Q : State → Prop} {G : GL} {o : Nat → Int32} {y0 : MS} {q : Int32 × CS × MS} {k10 : Int32 → CS → MS → Option (Int32 × CS × MS)} (hfl : l.stackTraces = false) (hq1 : q.1 = 1) (KR : ∀ (x : CS) (y : MS) (o : Nat → Int32) (pc : Nat) (H : Heap) (locs : List Loc) (ls : Array Slot), h_W G y0 (x, y, o) s.heap H locs → decode cL_law pc = .ok (.ireturn, 1) → W p l e (h_lv 200 y0) s m args below meth c H locs (h_nx y - h_nx y0) (h_sl y - h_sl y0) Q (F0 m pc ls [.int 1])) (C0 : g_X G (List.range 120) p s m args meth c cL_law 22 RL ret) (kt10 : ∀ (l2 : Int32) (x : CS) (y : MS) (H : Heap) (locs : List Loc) (ls : Array Slot), k10 l2 x y = some q → h_W G y0 (x, y, o) s.heap H locs → lv_has ls 22 [(0, .ref (g_st G 5)), (1, .ref (g_ad G (0))), (2, .int (l2))] → W p l e (h_lv 200 y0) s m args below meth c H locs (h_nx y - h_nx y0) (h_sl y - h_sl y0) Q (F0 m 10 ls [])) : ∀ (n : Nat) (l2 : Int32) (l3 : Nat) (l5 : Nat) (l6 : Int32) (l7 : Int32) (x : CS) (y : MS) (H : Heap) (locs : List Loc) (ls : Array Slot), f_l_L_law_94 (g_L G) (g_xs G) k10 n l2 l3 l5 l6 l7 x y = some q → h_W G y0 (x, y, o) s.heap H locs → lv_has ls 22 [(0, .ref (g_st G 5)), (1, .ref (g_ad G (0))), (2, .int (l2)), (3, g_rf G (l3)), (5, g_rf G (l5)), (6, .int (l6)), (7, .int (l7))] → W p l e (h_lv 200 y0) s m args below meth c H locs (h_nx y - h_nx y0) (h_sl y - h_sl y0) Q (F0 m 94 ls []) := by
  intro n
  induction n with
  | zero =>
    intro l2 l3 l5 l6 l7 x y H locs ls h hW hl
    exact absurd h (by simp [f_l_L_law_94])
  | succ n ih =>
    intro l2 l3 l5 l6 l7 x y H locs ls h hW hl
    unfold f_l_L_law_94 at h
    refine lv_iload C0.hx C0.hb dL_law_94 (lv_at hl 6 rfl) ?_
    refine lv_bipush (v := (6 : Int32)) C0.hx C0.hb dL_law_96 (by decide) ?_
    refine lv_icmp_ge (tgt := 1236) C0.hx C0.hb dL_law_98 (by decide) (fun hc17 => ?_) (fun hc17 => ?_)
    · replace h := (if_pos hc17).symm.trans h
      refine h_aload C0.hx C0.hb dL_law_1236 (lv_at hl 4 rfl) ?_
      refine lv_aload_n C0.hx C0.hb dL_law_1238 rfl (lv_at hl 1 rfl) ?_
      obtain ⟨hk18, h⟩ := g_if h
      obtain ⟨q19, hq19, h⟩ := Option.bind_eq_some_iff.mp h
      refine h_calli hW (h_runV (As := [.ref (g_ad G (0))]) (rest := []) C0 hW (hW.rf (h_ne hk18 (by decide))) (h_recv C0 hW (h_ne hk18 (by decide)) (h_c53 hk18) rfl) (c_l_X16_isSame hq19) cy_X16_isSame (by omega) tm_L_260 ti_X16_isSame ts_X16_isSame rfl hl.1 rfl (Nat.le_of_ble_eq_true rfl) dL_law_1239) (fun H locs hW => ?_)
      refine lv_if_ne (tgt := 1247) C0.hx C0.hb dL_law_1242 (by decide) (fun hc20 => ?_) (fun hc20 => ?_)
      · replace h := (if_neg hc20).symm.trans h
        refine lv_iinc (v := l2 + (1 : Int32)) (lv' := [(2, .int (l2 + (1 : Int32))), (0, .ref (g_st G 5)), (1, .ref (g_ad G (0))), (3, g_rf G (l3)), (5, g_rf G (l5)), (6, .int (l6)), (7, .int (l7))]) C0.hx C0.hb dL_law_1247 hl (k := 2) rfl rfl (by decide) rfl (fun ls hl => ?_)
        refine lv_goto (tgt := 10) C0.hx C0.hb dL_law_1250 (by decide) ?_
        have hz := kt10 _ _ _ _ _ _ h hW (lv_sub hl [1, 2, 0] rfl)
        exact hz
      · replace h := (if_pos hc20).symm.trans h
        refine lv_iconst (v := (0 : Int32)) C0.hx C0.hb dL_law_1245 (by decide) ?_
        obtain rfl := Option.some.inj h
        exact h_lret hq1 (KR _ _ _ _ _ _ _ hW dL_law_1246)
    · replace h := (if_neg hc17).symm.trans h
      refine lv_iconst (v := (0 : Int32)) C0.hx C0.hb dL_law_101 (by decide) ?_
      refine lv_istore (lv' := [(8, .int ((0 : Int32))), (0, .ref (g_st G 5)), (1, .ref (g_ad G (0))), (2, .int (l2)), (3, g_rf G (l3)), (5, g_rf G (l5)), (6, .int (l6)), (7, .int (l7))]) C0.hx C0.hb dL_law_102 hl (by decide) rfl (fun ls hl => ?_)
      have hz := w_l_L_law_104 (l := l) (e := e) (below := below) hfl hq1 KR C0 kt10 ih g_fuel _ _ _ _ _ _ _ _ _ _ _ h hW (lv_sub hl [1, 2, 3, 4, 5, 6, 7, 0] rfl)
      exact hz
set_option maxRecDepth 100000 in
set_option maxHeartbeats 4000000 in
theorem w_l_L_law_10 {p : Program} {l : Launch} {e : Env} {s : State} {m : MethodId} {args : Array Value} {below : List Frame} {meth : Method} {c : Code} {Q : State → Prop} {G : GL} {o : Nat → Int32} {y0 : MS} {q : Int32 × CS × MS} (hfl : l.stackTraces = false) (hq1 : q.1 = 1) (KR : ∀ (x : CS) (y : MS) (o : Nat → Int32) (pc : Nat) (H : Heap) (locs : List Loc) (ls : Array Slot), h_W G y0 (x, y, o) s.heap H locs → decode cL_law pc = .ok (.ireturn, 1) → W p l e (h_lv 200 y0) s m args below meth c H locs (h_nx y - h_nx y0) (h_sl y - h_sl y0) Q (F0 m pc ls [.int 1])) (C0 : g_X G (List.range 120) p s m args meth c cL_law 22 RL ret)  : ∀ (n : Nat) (l2 : Int32) (x : CS) (y : MS) (H : Heap) (locs : List Loc) (ls : Array Slot), f_l_L_law_10 (g_L G) (g_xs G) n l2 x y = some q → h_W G y0 (x, y, o) s.heap H locs → lv_has ls 22 [(0, .ref (g_st G 5)), (1, .ref (g_ad G (0))), (2, .int (l2))] → W p l e (h_lv 200 y0) s m args below meth c H locs (h_nx y - h_nx y0) (h_sl y - h_sl y0) Q (F0 m 10 ls []) := by
  intro n
  induction n with
  | zero =>
    intro l2 x y H locs ls h hW hl
    exact absurd h (by simp [f_l_L_law_10])
  | succ n ih =>
    intro l2 x y H locs ls h hW hl
    unfold f_l_L_law_10 at h
    refine lv_iload_n C0.hx C0.hb dL_law_10 rfl (lv_at hl 2 rfl) ?_
    refine lv_iconst (v := (2 : Int32)) C0.hx C0.hb dL_law_11 (by decide) ?_
    refine lv_icmp_ge (tgt := 1253) C0.hx C0.hb dL_law_12 (by decide) (fun hc1 => ?_) (fun hc1 => ?_)
    · replace h := (if_pos hc1).symm.trans h
      refine lv_iconst (v := (1 : Int32)) C0.hx C0.hb dL_law_1253 (by decide) ?_
      obtain rfl := Option.some.inj h
      exact h_lret hq1 (KR _ _ _ _ _ _ _ hW dL_law_1254)
    · replace h := (if_neg hc1).symm.trans h
      obtain ⟨hn2, h⟩ := g_if h
      refine hno_50 C0 hW hn2 tl_L_38 dL_law_15 (fun H hW => ?_)
      refine lv_dup C0.hx C0.hb dL_law_18 g_catQ ?_
      refine lv_aload_n C0.hx C0.hb dL_law_19 rfl (lv_at hl 0 rfl) ?_
      refine lv_iload_n C0.hx C0.hb dL_law_20 rfl (lv_at hl 2 rfl) ?_
      obtain ⟨q3, hq3, h⟩ := Option.bind_eq_some_iff.mp h
      refine h_calli hW (h_runS (As := [.ref (g_st G 5), .int (l2)]) (rest := [g_rf G (h_nx y), g_rf G (h_nx y)]) C0 hW (c_l_L_cell hq3) cy_L_cell (by omega) tm_L_149 tz_L_cell rfl hl.1 rfl (by simp [g_catQ, h_ki, h_kr, h_kn, h_kl, h_kd]) dL_law_21) (fun H locs hW => ?_)
      refine lv_aload_n C0.hx C0.hb dL_law_24 rfl (lv_at hl 0 rfl) ?_
      refine lv_iload_n C0.hx C0.hb dL_law_25 rfl (lv_at hl 2 rfl) ?_
      refine lv_iconst (v := (3 : Int32)) C0.hx C0.hb dL_law_26 (by decide) ?_
      refine lv_iadd C0.hx C0.hb dL_law_27 ?_
      obtain ⟨q4, hq4, h⟩ := Option.bind_eq_some_iff.mp h
      refine h_calli hW (h_runS (As := [.ref (g_st G 5), .int (l2 + (3 : Int32))]) (rest := [.int (q3), g_rf G (h_nx y), g_rf G (h_nx y)]) C0 hW (c_l_L_cell hq4) cy_L_cell (by omega) tm_L_149 tz_L_cell rfl hl.1 rfl (by simp [g_catQ, h_ki, h_kr, h_kn, h_kl, h_kd]) dL_law_28) (fun H locs hW => ?_)
      refine lv_bipush (v := (31 : Int32)) C0.hx C0.hb dL_law_31 (by decide) ?_
      refine lv_imul C0.hx C0.hb dL_law_33 ?_
      refine lv_ixor C0.hx C0.hb dL_law_34 ?_
      refine lv_aload_n C0.hx C0.hb dL_law_35 rfl (lv_at hl 0 rfl) ?_
      refine lv_iload_n C0.hx C0.hb dL_law_36 rfl (lv_at hl 2 rfl) ?_
      refine lv_bipush (v := (6 : Int32)) C0.hx C0.hb dL_law_37 (by decide) ?_
      refine lv_iadd C0.hx C0.hb dL_law_39 ?_
      obtain ⟨q5, hq5, h⟩ := Option.bind_eq_some_iff.mp h
      refine h_calli hW (h_runS (As := [.ref (g_st G 5), .int (l2 + (6 : Int32))]) (rest := [.int (q3 ^^^ (q4 * (31 : Int32))), g_rf G (h_nx y), g_rf G (h_nx y)]) C0 hW (c_l_L_cell hq5) cy_L_cell (by omega) tm_L_149 tz_L_cell rfl hl.1 rfl (by simp [g_catQ, h_ki, h_kr, h_kn, h_kl, h_kd]) dL_law_40) (fun H locs hW => ?_)
      refine lv_sipush (v := (1009 : Int32)) C0.hx C0.hb dL_law_43 (by decide) ?_
      refine lv_imul C0.hx C0.hb dL_law_46 ?_
      refine lv_ixor C0.hx C0.hb dL_law_47 ?_
      obtain ⟨hk6, h⟩ := g_if h
      obtain ⟨q7, hq7, h⟩ := Option.bind_eq_some_iff.mp h
      refine h_callv hW (h_runI (As := [.int ((q3 ^^^ (q4 * (31 : Int32))) ^^^ (q5 * (1009 : Int32)))]) (rest := [g_rf G (h_nx y)]) C0 hW (hW.rf (h_ne hk6 (by decide))) (c_l_X13_init hq7) cy_X13_init (by omega) tm_L_155 ti_X13_init rfl rfl hl.1 rfl (by simp [g_catQ, h_ki, h_kr, h_kn, h_kl, h_kd]) dL_law_48) (fun H locs hW => ?_)
      refine h_astore_n (lv' := [(3, g_rf G (h_nx y)), (0, .ref (g_st G 5)), (1, .ref (g_ad G (0))), (2, .int (l2))]) C0.hx C0.hb dL_law_51 rfl hl (by decide) rfl (fun ls hl => ?_)
      obtain ⟨hn8, h⟩ := g_if h
      refine hno_54 C0 hW hn8 tl_L_55 dL_law_52 (fun H hW => ?_)
      refine lv_dup C0.hx C0.hb dL_law_55 g_catQ ?_
      obtain ⟨hk9, h⟩ := g_if h
      obtain ⟨q10, hq10, h⟩ := Option.bind_eq_some_iff.mp h
      refine h_callv hW (h_runI (As := []) (rest := [g_rf G (h_nx q7)]) C0 hW (hW.rf (h_ne hk9 (by decide))) (c_l_J4_init_da8c8 hq10) cy_J4_init_da8c8 (by omega) tm_L_158 ti_J4_init_da8c8 rfl rfl hl.1 rfl (by simp [g_catQ, h_ki, h_kr, h_kn, h_kl, h_kd]) dL_law_56) (fun H locs hW => ?_)
      refine h_astore (lv' := [(4, g_rf G (h_nx q7)), (3, g_rf G (h_nx y)), (0, .ref (g_st G 5)), (1, .ref (g_ad G (0))), (2, .int (l2))]) C0.hx C0.hb dL_law_59 hl (by decide) (by simp [g_catQ]) (fun ls hl => ?_)
      refine h_aload_n C0.hx C0.hb dL_law_61 rfl (lv_at hl 1 rfl) ?_
      refine h_aload C0.hx C0.hb dL_law_62 (lv_at hl 0 rfl) ?_
      refine lv_iconst (v := (1 : Int32)) C0.hx C0.hb dL_law_64 (by decide) ?_
      refine lv_iconst (v := (4 : Int32)) C0.hx C0.hb dL_law_65 (by decide) ?_
      obtain ⟨q11, hq11, h⟩ := Option.bind_eq_some_iff.mp h
      refine h_callr hW (h_runS (As := [g_rf G (h_nx y), g_rf G (h_nx q7), .int ((1 : Int32)), .int ((4 : Int32))]) (rest := []) C0 hW (c_l_L_drawn hq11) cy_L_drawn (by omega) tm_L_159 tz_L_drawn rfl hl.1 rfl (Nat.le_of_ble_eq_true rfl) dL_law_66) (fun H locs hW => ?_)
      refine h_astore (lv' := [(5, g_rf G (q11.1)), (4, g_rf G (h_nx q7)), (3, g_rf G (h_nx y)), (0, .ref (g_st G 5)), (1, .ref (g_ad G (0))), (2, .int (l2))]) C0.hx C0.hb dL_law_69 hl (by decide) (by simp [g_catQ]) (fun ls hl => ?_)
      refine lv_aload_n C0.hx C0.hb dL_law_71 rfl (lv_at hl 4 rfl) ?_
      refine h_aload C0.hx C0.hb dL_law_72 (lv_at hl 1 rfl) ?_
      obtain ⟨hk12, h⟩ := g_if h
      obtain ⟨q13, hq13, h⟩ := Option.bind_eq_some_iff.mp h
      refine h_callr hW (h_runV (As := []) (rest := [.ref (g_ad G (0))]) C0 hW (hW.rf (h_ne hk12 (by decide))) (h_recv C0 hW (h_ne hk12 (by decide)) (h_c54 hk12) rfl) (c_l_J4_toString_0e30d hq13) cy_J4_toString_0e30d (by omega) tm_L_163 ti_J4_toString_0e30d ts_J4_toString_0e30d rfl hl.1 rfl (Nat.le_of_ble_eq_true rfl) dL_law_74) (fun H locs hW => ?_)
      obtain ⟨q14, hq14, h⟩ := Option.bind_eq_some_iff.mp h
      refine h_calli hW (h_runS (As := [.ref (g_ad G (0)), .ref (g_sa G (q13.1))]) (rest := []) C0 hW (c_l_L_taught hq14) cy_L_taught (by omega) tm_L_166 tz_L_taught rfl hl.1 rfl (Nat.le_of_ble_eq_true rfl) dL_law_77) (fun H locs hW => ?_)
      refine lv_if_eq (tgt := 85) C0.hx C0.hb dL_law_80 (by decide) (fun hc15 => ?_) (fun hc15 => ?_)
      · replace h := (if_pos hc15).symm.trans h
        refine lv_aload_n C0.hx C0.hb dL_law_85 rfl (lv_at hl 4 rfl) ?_
        obtain ⟨q16, hq16, h⟩ := Option.bind_eq_some_iff.mp h
        refine h_kcalli hW (h_krunV (Sx := (x, y, o)) (As := []) (rest := []) C0 hW (c_X12_words hq16) rfl ⟨tc_X12_words, tn_X12, md_X12_words, by decide⟩ (by omega) tm_L_170 ti_X12_words ts_X12_words rfl hl.1 rfl (Nat.le_of_ble_eq_true rfl) dL_law_86) (fun H locs hW => ?_)
        refine lv_istore (lv' := [(6, .int (q16)), (5, g_rf G (q11.1)), (4, g_rf G (h_nx q7)), (3, g_rf G (h_nx y)), (0, .ref (g_st G 5)), (1, .ref (g_ad G (0))), (2, .int (l2))]) C0.hx C0.hb dL_law_89 hl (by decide) (by simp [g_catQ]) (fun ls hl => ?_)
        refine lv_iconst (v := (0 : Int32)) C0.hx C0.hb dL_law_91 (by decide) ?_
        refine lv_istore (lv' := [(7, .int ((0 : Int32))), (6, .int (q16)), (5, g_rf G (q11.1)), (4, g_rf G (h_nx q7)), (3, g_rf G (h_nx y)), (0, .ref (g_st G 5)), (1, .ref (g_ad G (0))), (2, .int (l2))]) C0.hx C0.hb dL_law_92 hl (by decide) rfl (fun ls hl => ?_)
        have hz := w_l_L_law_94 (l := l) (e := e) (below := below) hfl hq1 KR C0 ih g_fuel _ _ _ _ _ _ _ _ _ _ h hW (lv_sub hl [5, 6, 7, 4, 2, 1, 0] rfl)
        exact hz
      · replace h := (if_neg hc15).symm.trans h
        refine lv_iconst (v := (0 : Int32)) C0.hx C0.hb dL_law_83 (by decide) ?_
        obtain rfl := Option.some.inj h
        exact h_lret hq1 (KR _ _ _ _ _ _ _ hW dL_law_84)
set_option maxRecDepth 100000 in
set_option maxHeartbeats 4000000 in
theorem w_l_L_law {p : Program} {l : Launch} {e : Env} {s : State} {m : MethodId} {args : Array Value} {below : List Frame} {meth : Method} {c : Code} {Q : State → Prop} {G : GL} {o : Nat → Int32} {y0 : MS} {q : Int32 × CS × MS} (hfl : l.stackTraces = false) (hq1 : q.1 = 1) (KR : ∀ (x : CS) (y : MS) (o : Nat → Int32) (pc : Nat) (H : Heap) (locs : List Loc) (ls : Array Slot), h_W G y0 (x, y, o) s.heap H locs → decode cL_law pc = .ok (.ireturn, 1) → W p l e (h_lv 200 y0) s m args below meth c H locs (h_nx y - h_nx y0) (h_sl y - h_sl y0) Q (F0 m pc ls [.int 1])) (C0 : g_X G (List.range 120) p s m args meth c cL_law 22 RL ret) : ∀ (x : CS) (y : MS) (H : Heap) (locs : List Loc) (ls : Array Slot), f_l_L_law (g_L G) (g_xs G) x y = some q → h_W G y0 (x, y, o) s.heap H locs → lv_has ls 22 [(0, .ref (g_st G 5)), (1, .ref (g_ad G (0)))] → W p l e (h_lv 200 y0) s m args below meth c H locs (h_nx y - h_nx y0) (h_sl y - h_sl y0) Q (F0 m 8 ls []) := by
  intro x y H locs ls h hW hl
  unfold f_l_L_law at h
  refine lv_iconst (v := (0 : Int32)) C0.hx C0.hb dL_law_8 (by decide) ?_
  refine lv_istore_n (lv' := [(2, .int ((0 : Int32))), (0, .ref (g_st G 5)), (1, .ref (g_ad G (0)))]) C0.hx C0.hb dL_law_9 rfl hl (by decide) rfl (fun ls hl => ?_)
  have hz := w_l_L_law_10 (l := l) (e := e) (below := below) hfl hq1 KR C0 g_fuel _ _ _ _ _ _ h hW (lv_sub hl [1, 2, 0] rfl)
  exact hz
