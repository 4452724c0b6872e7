/-! the law's loop -/
noncomputable def fL_law_b1229 (L : Nat) (xs : Nat → Int32) (k42 : (Nat → Int32) → (Nat → Int32) → (Nat → Int32) → (Nat → Int32) → (Nat → Int64) → CS → Int32 → Option (Int32)) (qv : Nat → Int32) (kev : Nat → Int32) (bov : Nat → Int32) (wrv : Nat → Int32) (opv : Nat → Int64) (cs : CS) (y7 : Int32) : Option (Int32) :=
  k42 qv kev bov wrv opv cs (y7 + 1)

noncomputable def fL_law_b1208 (L : Nat) (xs : Nat → Int32) (k42 : (Nat → Int32) → (Nat → Int32) → (Nat → Int32) → (Nat → Int32) → (Nat → Int64) → CS → Int32 → Option (Int32)) (qv : Nat → Int32) (kev : Nat → Int32) (bov : Nat → Int32) (wrv : Nat → Int32) (opv : Nat → Int64) (cs : CS) (y7 : Int32) (y8 : Int32) : Option (Int32) :=
  ((fL_same qv kev bov wrv opv cs (y8 >>> ((2 : Int32) &&& 31))).bind fun q1 => (if q1.1 = 0 then (some 0) else fL_law_b1229 L xs k42 qv kev bov wrv q1.2.1 q1.2.2 y7))

noncomputable def fL_law_b376 (L : Nat) (xs : Nat → Int32) (k42 : (Nat → Int32) → (Nat → Int32) → (Nat → Int32) → (Nat → Int32) → (Nat → Int64) → CS → Int32 → Option (Int32)) (qv : Nat → Int32) (kev : Nat → Int32) (bov : Nat → Int32) (wrv : Nat → Int32) (opv : Nat → Int64) (cs : CS) (y7 : Int32) (y8 : Int32) (y10 : Int32) : Option (Int32) :=
  (if (2 : Int32) < 0 ∨ 4 ≤ (2 : Int32).toNatClampNeg then none else (if (2 * (qv (2 : Int32).toNatClampNeg)) < 0 ∨ 12 ≤ (2 * (qv (2 : Int32).toNatClampNeg)).toNatClampNeg then none else (if (2 : Int32) < 0 ∨ 4 ≤ (2 : Int32).toNatClampNeg then none else (if ((2 * (qv (2 : Int32).toNatClampNeg)) + 1) < 0 ∨ 12 ≤ ((2 * (qv (2 : Int32).toNatClampNeg)) + 1).toNatClampNeg then none else (if (2 : Int32) < 0 ∨ 4 ≤ (2 : Int32).toNatClampNeg then none else (if (2 : Int32) < 0 ∨ 4 ≤ (2 : Int32).toNatClampNeg then none else ((fL_wrap (upd qv (2 : Int32).toNatClampNeg ((qv (2 : Int32).toNatClampNeg) + 1)) kev wrv 7 (qv (2 : Int32).toNatClampNeg) y10).bind fun q10 => fL_law_b1208 L xs k42 q10.1 q10.2.1 (upd (upd bov (2 * (qv (2 : Int32).toNatClampNeg)).toNatClampNeg y10) ((2 * (qv (2 : Int32).toNatClampNeg)) + 1).toNatClampNeg 1) q10.2.2 opv cs y7 y8)))))))

noncomputable def fL_law_b363 (L : Nat) (xs : Nat → Int32) (k42 : (Nat → Int32) → (Nat → Int32) → (Nat → Int32) → (Nat → Int32) → (Nat → Int64) → CS → Int32 → Option (Int32)) (qv : Nat → Int32) (kev : Nat → Int32) (bov : Nat → Int32) (wrv : Nat → Int32) (opv : Nat → Int64) (cs : CS) (y7 : Int32) (y8 : Int32) (y10 : Int32) (y12 : Int32) (z0 : Int32) (z1 : Int32) : Option (Int32) :=
  (if z0 = z1 then (if y12 = 0 then fL_law_b1229 L xs k42 qv kev bov wrv opv cs y7 else fL_law_b376 L xs k42 qv kev bov wrv opv cs y7 y8 y10) else (some 0))

noncomputable def fL_law_b335 (L : Nat) (xs : Nat → Int32) (k42 : (Nat → Int32) → (Nat → Int32) → (Nat → Int32) → (Nat → Int32) → (Nat → Int64) → CS → Int32 → Option (Int32)) (qv : Nat → Int32) (kev : Nat → Int32) (bov : Nat → Int32) (wrv : Nat → Int32) (opv : Nat → Int64) (cs : CS) (y7 : Int32) (y8 : Int32) (y10 : Int32) (y11 : Int32) (y12 : Int32) : Option (Int32) :=
  ((sX7_box cs y10).bind fun q14 => (if y12 = 0 then (if y11 = 0 then fL_law_b363 L xs k42 qv kev bov wrv opv q14.2 y7 y8 y10 y12 q14.1 (-1) else fL_law_b363 L xs k42 qv kev bov wrv opv q14.2 y7 y8 y10 y12 q14.1 (-5)) else (if (2 : Int32) < 0 ∨ 4 ≤ (2 : Int32).toNatClampNeg then none else fL_law_b363 L xs k42 qv kev bov wrv opv q14.2 y7 y8 y10 y12 q14.1 (qv (2 : Int32).toNatClampNeg))))

noncomputable def fL_law_b324 (L : Nat) (xs : Nat → Int32) (k42 : (Nat → Int32) → (Nat → Int32) → (Nat → Int32) → (Nat → Int32) → (Nat → Int64) → CS → Int32 → Option (Int32)) (qv : Nat → Int32) (kev : Nat → Int32) (bov : Nat → Int32) (wrv : Nat → Int32) (opv : Nat → Int64) (cs : CS) (y7 : Int32) (y8 : Int32) (y10 : Int32) (y11 : Int32) (y12 : Int32) : Option (Int32) :=
  (if (2 : Int32) < 0 ∨ 4 ≤ (2 : Int32).toNatClampNeg then none else (if (qv (2 : Int32).toNatClampNeg) = 6 then fL_law_b1229 L xs k42 qv kev bov wrv opv cs y7 else fL_law_b335 L xs k42 qv kev bov wrv opv cs y7 y8 y10 y11 y12))

noncomputable def fL_law_b1180 (L : Nat) (xs : Nat → Int32) (k42 : (Nat → Int32) → (Nat → Int32) → (Nat → Int32) → (Nat → Int32) → (Nat → Int64) → CS → Int32 → Option (Int32)) (qv : Nat → Int32) (kev : Nat → Int32) (bov : Nat → Int32) (wrv : Nat → Int32) (opv : Nat → Int64) (cs : CS) (y7 : Int32) (y8 : Int32) (y15 : Int32) (y17 : Int32) : Option (Int32) :=
  ((fL_burn qv kev bov wrv (-1)).bind fun q21 => ((fL_anew qv kev bov q21 y15).bind fun q23 => (if q23.1 = y17 then fL_law_b1208 L xs k42 q23.2.1 q23.2.2.1 bov q23.2.2.2 opv cs y7 y8 else (some 0))))

noncomputable def fL_law_b1141 (L : Nat) (xs : Nat → Int32) (k42 : (Nat → Int32) → (Nat → Int32) → (Nat → Int32) → (Nat → Int32) → (Nat → Int64) → CS → Int32 → Option (Int32)) : Nat → (Nat → Int32) → (Nat → Int32) → (Nat → Int32) → (Nat → Int32) → (Nat → Int64) → CS → Int32 → Int32 → Int32 → Int32 → Int32 → Int32 → Int32 → Option (Int32)
  | 0, _, _, _, _, _, _, _, _, _, _, _, _, _ => none
  | fuel + 1, qv, kev, bov, wrv, opv, cs, y7, y8, y10, y13, y15, y17, y20 =>
  (if (1 : Int32) < 0 ∨ 4 ≤ (1 : Int32).toNatClampNeg then none else (if (qv (1 : Int32).toNatClampNeg) ≤ y20 then fL_law_b1180 L xs k42 qv kev bov wrv opv cs y7 y8 y15 y17 else (if y13 = 0 then fL_law_b1180 L xs k42 qv kev bov wrv opv cs y7 y8 y15 y17 else ((fL_under kev y20 y10).bind fun q29 => (if q29 = 0 then fL_law_b1141 L xs k42 fuel qv kev bov wrv opv cs y7 y8 y10 y13 y15 y17 (y20 + 1) else (if ((4 * y20) + 1) < 0 ∨ 24 ≤ ((4 * y20) + 1).toNatClampNeg then none else fL_law_b1141 L xs k42 fuel qv (upd kev ((4 * y20) + 1).toNatClampNeg 0) bov wrv opv cs y7 y8 y10 y13 y15 y17 (y20 + 1)))))))

noncomputable def fL_law_b1138 (L : Nat) (xs : Nat → Int32) (k42 : (Nat → Int32) → (Nat → Int32) → (Nat → Int32) → (Nat → Int32) → (Nat → Int64) → CS → Int32 → Option (Int32)) (qv : Nat → Int32) (kev : Nat → Int32) (bov : Nat → Int32) (wrv : Nat → Int32) (opv : Nat → Int64) (cs : CS) (y7 : Int32) (y8 : Int32) (y10 : Int32) (y13 : Int32) (y15 : Int32) (y17 : Int32) : Option (Int32) :=
  fL_law_b1141 L xs k42 6000 qv kev bov wrv opv cs y7 y8 y10 y13 y15 y17 0

noncomputable def fL_law_b1083 (L : Nat) (xs : Nat → Int32) (k42 : (Nat → Int32) → (Nat → Int32) → (Nat → Int32) → (Nat → Int32) → (Nat → Int64) → CS → Int32 → Option (Int32)) : Nat → (Nat → Int32) → (Nat → Int32) → (Nat → Int32) → (Nat → Int32) → (Nat → Int64) → CS → Int32 → Int32 → Int32 → Int32 → Int32 → Int32 → Int32 → Int32 → Option (Int32)
  | 0, _, _, _, _, _, _, _, _, _, _, _, _, _, _ => none
  | fuel + 1, qv, kev, bov, wrv, opv, cs, y7, y8, y10, y13, y14, y15, y17, y20 =>
  (if (2 : Int32) < 0 ∨ 4 ≤ (2 : Int32).toNatClampNeg then none else (if (qv (2 : Int32).toNatClampNeg) ≤ y20 then fL_law_b1138 L xs k42 qv kev bov wrv opv cs y7 y8 y10 y13 y15 y17 else (if y13 = 0 then (if y20 = y14 then (if ((2 * y20) + 1) < 0 ∨ 12 ≤ ((2 * y20) + 1).toNatClampNeg then none else fL_law_b1083 L xs k42 fuel qv kev (upd bov ((2 * y20) + 1).toNatClampNeg 0) wrv opv cs y7 y8 y10 y13 y14 y15 y17 (y20 + 1)) else fL_law_b1083 L xs k42 fuel qv kev bov wrv opv cs y7 y8 y10 y13 y14 y15 y17 (y20 + 1)) else (if (2 * y20) < 0 ∨ 12 ≤ (2 * y20).toNatClampNeg then none else ((fL_under kev (bov (2 * y20).toNatClampNeg) y10).bind fun q39 => (if q39 = 0 then fL_law_b1083 L xs k42 fuel qv kev bov wrv opv cs y7 y8 y10 y13 y14 y15 y17 (y20 + 1) else (if ((2 * y20) + 1) < 0 ∨ 12 ≤ ((2 * y20) + 1).toNatClampNeg then none else fL_law_b1083 L xs k42 fuel qv kev (upd bov ((2 * y20) + 1).toNatClampNeg 0) wrv opv cs y7 y8 y10 y13 y14 y15 y17 (y20 + 1))))))))

noncomputable def fL_law_b1075 (L : Nat) (xs : Nat → Int32) (k42 : (Nat → Int32) → (Nat → Int32) → (Nat → Int32) → (Nat → Int32) → (Nat → Int64) → CS → Int32 → Option (Int32)) (qv : Nat → Int32) (kev : Nat → Int32) (bov : Nat → Int32) (wrv : Nat → Int32) (opv : Nat → Int64) (cs : CS) (y7 : Int32) (y8 : Int32) (y10 : Int32) (y13 : Int32) (y14 : Int32) (y15 : Int32) (y16 : Int32) (y17 : Int32) : Option (Int32) :=
  (if y16 = 0 then fL_law_b1208 L xs k42 qv kev bov wrv opv cs y7 y8 else fL_law_b1083 L xs k42 6000 qv kev bov wrv opv cs y7 y8 y10 y13 y14 y15 y17 0)

noncomputable def fL_law_b1049 (L : Nat) (xs : Nat → Int32) (k42 : (Nat → Int32) → (Nat → Int32) → (Nat → Int32) → (Nat → Int32) → (Nat → Int64) → CS → Int32 → Option (Int32)) (qv : Nat → Int32) (kev : Nat → Int32) (bov : Nat → Int32) (wrv : Nat → Int32) (opv : Nat → Int64) (cs : CS) (y7 : Int32) (y8 : Int32) (y10 : Int32) (y13 : Int32) (y14 : Int32) (y15 : Int32) (y16 : Int32) (y17 : Int32) (y18 : Int32) (y19 : Int32) : Option (Int32) :=
  (if y18 = y19 then (if y16 = 0 then (if y19 = (-5) then fL_law_b1075 L xs k42 qv kev bov wrv opv cs y7 y8 y10 y13 y14 y15 y16 y17 else (some 0)) else (if y19 = y17 then fL_law_b1075 L xs k42 qv kev bov wrv opv cs y7 y8 y10 y13 y14 y15 y16 y17 else (some 0))) else (some 0))

noncomputable def fL_law_b1047 (L : Nat) (xs : Nat → Int32) (k42 : (Nat → Int32) → (Nat → Int32) → (Nat → Int32) → (Nat → Int32) → (Nat → Int64) → CS → Int32 → Option (Int32)) (qv : Nat → Int32) (kev : Nat → Int32) (bov : Nat → Int32) (wrv : Nat → Int32) (opv : Nat → Int64) (cs : CS) (y7 : Int32) (y8 : Int32) (y10 : Int32) (y13 : Int32) (y14 : Int32) (y15 : Int32) (y16 : Int32) (y17 : Int32) (y18 : Int32) (z0 : Int32) : Option (Int32) :=
  fL_law_b1049 L xs k42 qv kev bov wrv opv cs y7 y8 y10 y13 y14 y15 y16 y17 y18 z0

noncomputable def fL_law_b1027 (L : Nat) (xs : Nat → Int32) (k42 : (Nat → Int32) → (Nat → Int32) → (Nat → Int32) → (Nat → Int32) → (Nat → Int64) → CS → Int32 → Option (Int32)) (qv : Nat → Int32) (kev : Nat → Int32) (bov : Nat → Int32) (wrv : Nat → Int32) (opv : Nat → Int64) (cs : CS) (y7 : Int32) (y8 : Int32) (y10 : Int32) (y13 : Int32) (y14 : Int32) (y15 : Int32) (y16 : Int32) (y17 : Int32) (y18 : Int32) : Option (Int32) :=
  (if y13 = 0 then ((sX7_throwBox cs y14).bind fun q49 => fL_law_b1047 L xs k42 qv kev bov wrv opv q49.2 y7 y8 y10 y13 y14 y15 y16 y17 y18 q49.1) else ((sX7_throwKey cs y10).bind fun q51 => fL_law_b1047 L xs k42 qv kev bov wrv opv q51.2 y7 y8 y10 y13 y14 y15 y16 y17 y18 q51.1))

noncomputable def fL_law_b1010 (L : Nat) (xs : Nat → Int32) (k42 : (Nat → Int32) → (Nat → Int32) → (Nat → Int32) → (Nat → Int32) → (Nat → Int64) → CS → Int32 → Option (Int32)) (qv : Nat → Int32) (kev : Nat → Int32) (bov : Nat → Int32) (wrv : Nat → Int32) (opv : Nat → Int64) (cs : CS) (y7 : Int32) (y8 : Int32) (y10 : Int32) (y13 : Int32) (y14 : Int32) (y15 : Int32) (y16 : Int32) (y17 : Int32) (z1 : Int32) : Option (Int32) :=
  (if y13 = 0 then ((sX7_throwingMakes cs z1 y14).bind fun q54 => fL_law_b1027 L xs k42 qv kev bov wrv opv q54.2 y7 y8 y10 y13 y14 y15 y16 y17 q54.1) else ((sX7_throwingMakes cs z1 y10).bind fun q56 => fL_law_b1027 L xs k42 qv kev bov wrv opv q56.2 y7 y8 y10 y13 y14 y15 y16 y17 q56.1))

noncomputable def fL_law_b999 (L : Nat) (xs : Nat → Int32) (k42 : (Nat → Int32) → (Nat → Int32) → (Nat → Int32) → (Nat → Int32) → (Nat → Int64) → CS → Int32 → Option (Int32)) (qv : Nat → Int32) (kev : Nat → Int32) (bov : Nat → Int32) (wrv : Nat → Int32) (opv : Nat → Int64) (cs : CS) (y7 : Int32) (y8 : Int32) (y10 : Int32) (y13 : Int32) (y14 : Int32) (y15 : Int32) (y16 : Int32) (y17 : Int32) : Option (Int32) :=
  (if y13 = 0 then fL_law_b1010 L xs k42 qv kev bov wrv opv cs y7 y8 y10 y13 y14 y15 y16 y17 1 else fL_law_b1010 L xs k42 qv kev bov wrv opv cs y7 y8 y10 y13 y14 y15 y16 y17 0)

noncomputable def fL_law_b958 (L : Nat) (xs : Nat → Int32) (k42 : (Nat → Int32) → (Nat → Int32) → (Nat → Int32) → (Nat → Int32) → (Nat → Int64) → CS → Int32 → Option (Int32)) (k932 : (Nat → Int32) → (Nat → Int32) → (Nat → Int32) → (Nat → Int32) → (Nat → Int64) → CS → Int32 → Int32 → Int32 → Int32 → Int32 → Int32 → Int32 → Int32 → Int32 → Option (Int32)) (qv : Nat → Int32) (kev : Nat → Int32) (bov : Nat → Int32) (wrv : Nat → Int32) (opv : Nat → Int64) (cs : CS) (y7 : Int32) (y8 : Int32) (y10 : Int32) (y13 : Int32) (y14 : Int32) (y15 : Int32) (y16 : Int32) (y17 : Int32) (y18 : Int32) (z0 : Int32) (z1 : Int32) : Option (Int32) :=
  (if y16 = 0 then (if (4 * y18) < 0 ∨ 24 ≤ (4 * y18).toNatClampNeg then none else k932 qv kev bov wrv opv cs y7 y8 y10 y13 y14 y15 0 (y17 + (z0 - z1)) (kev (4 * y18).toNatClampNeg)) else (if (0 : Int32) < 0 ∨ 4 ≤ (0 : Int32).toNatClampNeg then none else (if (qv (0 : Int32).toNatClampNeg) < (z0 - z1) then (if (4 * y18) < 0 ∨ 24 ≤ (4 * y18).toNatClampNeg then none else k932 qv kev bov wrv opv cs y7 y8 y10 y13 y14 y15 0 (y17 + (z0 - z1)) (kev (4 * y18).toNatClampNeg)) else (if (4 * y18) < 0 ∨ 24 ≤ (4 * y18).toNatClampNeg then none else k932 qv kev bov wrv opv cs y7 y8 y10 y13 y14 y15 1 (y17 + (z0 - z1)) (kev (4 * y18).toNatClampNeg)))))

noncomputable def fL_law_b932 (L : Nat) (xs : Nat → Int32) (k42 : (Nat → Int32) → (Nat → Int32) → (Nat → Int32) → (Nat → Int32) → (Nat → Int64) → CS → Int32 → Option (Int32)) : Nat → (Nat → Int32) → (Nat → Int32) → (Nat → Int32) → (Nat → Int32) → (Nat → Int64) → CS → Int32 → Int32 → Int32 → Int32 → Int32 → Int32 → Int32 → Int32 → Int32 → Option (Int32)
  | 0, _, _, _, _, _, _, _, _, _, _, _, _, _, _, _ => none
  | fuel + 1, qv, kev, bov, wrv, opv, cs, y7, y8, y10, y13, y14, y15, y16, y17, y18 =>
  (if y18 < 0 then fL_law_b999 L xs k42 qv kev bov wrv opv cs y7 y8 y10 y13 y14 y15 y16 y17 else ((fL_hang qv kev bov y18).bind fun q66 => (if y18 = y15 then fL_law_b958 L xs k42 (fL_law_b932 L xs k42 fuel) qv kev bov wrv opv cs y7 y8 y10 y13 y14 y15 y16 y17 y18 q66 1 else fL_law_b958 L xs k42 (fL_law_b932 L xs k42 fuel) qv kev bov wrv opv cs y7 y8 y10 y13 y14 y15 y16 y17 y18 q66 0)))

noncomputable def fL_law_b922 (L : Nat) (xs : Nat → Int32) (k42 : (Nat → Int32) → (Nat → Int32) → (Nat → Int32) → (Nat → Int32) → (Nat → Int64) → CS → Int32 → Option (Int32)) (qv : Nat → Int32) (kev : Nat → Int32) (bov : Nat → Int32) (wrv : Nat → Int32) (opv : Nat → Int64) (cs : CS) (y7 : Int32) (y8 : Int32) (y10 : Int32) (y13 : Int32) (y14 : Int32) (y15 : Int32) : Option (Int32) :=
  fL_law_b932 L xs k42 6000 qv kev bov wrv opv cs y7 y8 y10 y13 y14 y15 1 0 y15

noncomputable def fL_law_b899 (L : Nat) (xs : Nat → Int32) (k42 : (Nat → Int32) → (Nat → Int32) → (Nat → Int32) → (Nat → Int32) → (Nat → Int64) → CS → Int32 → Option (Int32)) (qv : Nat → Int32) (kev : Nat → Int32) (bov : Nat → Int32) (wrv : Nat → Int32) (opv : Nat → Int64) (cs : CS) (y7 : Int32) (y8 : Int32) (y10 : Int32) (y13 : Int32) (y14 : Int32) : Option (Int32) :=
  (if y13 = 0 then (if (2 * y14) < 0 ∨ 12 ≤ (2 * y14).toNatClampNeg then none else fL_law_b922 L xs k42 qv kev bov wrv opv cs y7 y8 y10 y13 y14 (bov (2 * y14).toNatClampNeg)) else (if (4 * y10) < 0 ∨ 24 ≤ (4 * y10).toNatClampNeg then none else fL_law_b922 L xs k42 qv kev bov wrv opv cs y7 y8 y10 y13 y14 (kev (4 * y10).toNatClampNeg)))

noncomputable def fL_law_b863 (L : Nat) (xs : Nat → Int32) (k42 : (Nat → Int32) → (Nat → Int32) → (Nat → Int32) → (Nat → Int32) → (Nat → Int64) → CS → Int32 → Option (Int32)) (qv : Nat → Int32) (kev : Nat → Int32) (bov : Nat → Int32) (wrv : Nat → Int32) (opv : Nat → Int64) (cs : CS) (y7 : Int32) (y8 : Int32) (y10 : Int32) (y11 : Int32) (y13 : Int32) (z0 : Int32) : Option (Int32) :=
  (if y13 = 0 then (if (2 : Int32) < 0 ∨ 4 ≤ (2 : Int32).toNatClampNeg then none else (if (qv (2 : Int32).toNatClampNeg) = 0 then fL_law_b1229 L xs k42 qv kev bov wrv opv cs y7 else (if ((2 * z0) + 1) < 0 ∨ 12 ≤ ((2 * z0) + 1).toNatClampNeg then none else (if (bov ((2 * z0) + 1).toNatClampNeg) = 0 then fL_law_b1229 L xs k42 qv kev bov wrv opv cs y7 else fL_law_b899 L xs k42 qv kev bov wrv opv cs y7 y8 y10 y13 z0)))) else (if y11 = 0 then fL_law_b1229 L xs k42 qv kev bov wrv opv cs y7 else fL_law_b899 L xs k42 qv kev bov wrv opv cs y7 y8 y10 y13 z0))

noncomputable def fL_law_b829 (L : Nat) (xs : Nat → Int32) (k42 : (Nat → Int32) → (Nat → Int32) → (Nat → Int32) → (Nat → Int32) → (Nat → Int64) → CS → Int32 → Option (Int32)) (qv : Nat → Int32) (kev : Nat → Int32) (bov : Nat → Int32) (wrv : Nat → Int32) (opv : Nat → Int64) (cs : CS) (y7 : Int32) (y8 : Int32) (y9 : Int32) (y10 : Int32) (y11 : Int32) : Option (Int32) :=
  (if y9 = 8 then (if (2 : Int32) < 0 ∨ 4 ≤ (2 : Int32).toNatClampNeg then none else (if (qv (2 : Int32).toNatClampNeg) = 0 then fL_law_b863 L xs k42 qv kev bov wrv opv cs y7 y8 y10 y11 1 0 else (if (2 : Int32) < 0 ∨ 4 ≤ (2 : Int32).toNatClampNeg then none else ((fL_low (y8 >>> ((4 : Int32) &&& 31)) (qv (2 : Int32).toNatClampNeg)).bind fun q87 => fL_law_b863 L xs k42 qv kev bov wrv opv cs y7 y8 y10 y11 1 q87)))) else (if (2 : Int32) < 0 ∨ 4 ≤ (2 : Int32).toNatClampNeg then none else (if (qv (2 : Int32).toNatClampNeg) = 0 then fL_law_b863 L xs k42 qv kev bov wrv opv cs y7 y8 y10 y11 0 0 else (if (2 : Int32) < 0 ∨ 4 ≤ (2 : Int32).toNatClampNeg then none else ((fL_low (y8 >>> ((4 : Int32) &&& 31)) (qv (2 : Int32).toNatClampNeg)).bind fun q82 => fL_law_b863 L xs k42 qv kev bov wrv opv cs y7 y8 y10 y11 0 q82)))))

noncomputable def fL_law_b794 (L : Nat) (xs : Nat → Int32) (k42 : (Nat → Int32) → (Nat → Int32) → (Nat → Int32) → (Nat → Int32) → (Nat → Int64) → CS → Int32 → Option (Int32)) (qv : Nat → Int32) (kev : Nat → Int32) (bov : Nat → Int32) (wrv : Nat → Int32) (opv : Nat → Int64) (cs : CS) (y7 : Int32) (y8 : Int32) : Option (Int32) :=
  ((fL_low (y8 >>> ((4 : Int32) &&& 31)) 8).bind fun q89 => ((sX7_wear cs (2 + q89)).bind fun q91 => (if (0 : Int32) < 0 ∨ 4 ≤ (0 : Int32).toNatClampNeg then none else (if q91.1 = (qv (0 : Int32).toNatClampNeg) then (if (0 : Int32) < 0 ∨ 4 ≤ (0 : Int32).toNatClampNeg then none else fL_law_b1208 L xs k42 (upd qv (0 : Int32).toNatClampNeg (2 + q89)) kev bov wrv opv q91.2 y7 y8) else (some 0)))))

noncomputable def fL_law_b711 (L : Nat) (xs : Nat → Int32) (k42 : (Nat → Int32) → (Nat → Int32) → (Nat → Int32) → (Nat → Int32) → (Nat → Int64) → CS → Int32 → Option (Int32)) (qv : Nat → Int32) (kev : Nat → Int32) (bov : Nat → Int32) (wrv : Nat → Int32) (opv : Nat → Int64) (cs : CS) (y7 : Int32) (y8 : Int32) (y10 : Int32) (y13 : Int32) (y15 : Int32) : Option (Int32) :=
  (if y15 = 0 then fL_law_b1208 L xs k42 qv kev bov wrv opv cs y7 y8 else (if ((4 * y10) + 2) < 0 ∨ 24 ≤ ((4 * y10) + 2).toNatClampNeg then none else (if ((4 * y10) + 2) < 0 ∨ 24 ≤ ((4 * y10) + 2).toNatClampNeg then none else (if ((4 * y10) + 3) < 0 ∨ 24 ≤ ((4 * y10) + 3).toNatClampNeg then none else ((fL_burn qv (upd (upd kev ((4 * y10) + 2).toNatClampNeg ((kev ((4 * y10) + 2).toNatClampNeg) + 1)) ((4 * y10) + 3).toNatClampNeg 0) bov wrv y10).bind fun q100 => (if y13 < 0 then ((fL_wrapAll qv (upd (upd kev ((4 * y10) + 2).toNatClampNeg ((kev ((4 * y10) + 2).toNatClampNeg) + 1)) ((4 * y10) + 3).toNatClampNeg 0) bov q100 y10).bind fun q103 => fL_law_b1208 L xs k42 q103.2.1 q103.2.2.1 bov q103.2.2.2 opv cs y7 y8) else (if ((4 * y10) + 2) < 0 ∨ 24 ≤ ((4 * y10) + 2).toNatClampNeg then none else ((fL_wrap qv (upd (upd kev ((4 * y10) + 2).toNatClampNeg ((kev ((4 * y10) + 2).toNatClampNeg) + 1)) ((4 * y10) + 3).toNatClampNeg 0) q100 y10 ((upd (upd kev ((4 * y10) + 2).toNatClampNeg ((kev ((4 * y10) + 2).toNatClampNeg) + 1)) ((4 * y10) + 3).toNatClampNeg 0) ((4 * y10) + 2).toNatClampNeg) y13).bind fun q106 => ((fL_wrapAll q106.1 q106.2.1 bov q106.2.2 y10).bind fun q108 => fL_law_b1208 L xs k42 q108.2.1 q108.2.2.1 bov q108.2.2.2 opv cs y7 y8)))))))))

noncomputable def fL_law_b706 (L : Nat) (xs : Nat → Int32) (k42 : (Nat → Int32) → (Nat → Int32) → (Nat → Int32) → (Nat → Int32) → (Nat → Int64) → CS → Int32 → Option (Int32)) (qv : Nat → Int32) (kev : Nat → Int32) (bov : Nat → Int32) (wrv : Nat → Int32) (opv : Nat → Int64) (cs : CS) (y7 : Int32) (y8 : Int32) (y10 : Int32) (y13 : Int32) (y15 : Int32) (z0 : Int32) (z1 : Int32) : Option (Int32) :=
  (if z0 = z1 then fL_law_b711 L xs k42 qv kev bov wrv opv cs y7 y8 y10 y13 y15 else (some 0))

noncomputable def fL_law_b677 (L : Nat) (xs : Nat → Int32) (k42 : (Nat → Int32) → (Nat → Int32) → (Nat → Int32) → (Nat → Int32) → (Nat → Int64) → CS → Int32 → Option (Int32)) (qv : Nat → Int32) (kev : Nat → Int32) (bov : Nat → Int32) (wrv : Nat → Int32) (opv : Nat → Int64) (cs : CS) (y7 : Int32) (y8 : Int32) (y10 : Int32) (y13 : Int32) (y14 : Int32) (y15 : Int32) : Option (Int32) :=
  ((sX7_renew cs y10).bind fun q111 => (if y15 = 0 then fL_law_b706 L xs k42 qv kev bov wrv opv q111.2 y7 y8 y10 y13 y15 q111.1 (-5) else (if 0 ≤ y13 then fL_law_b706 L xs k42 qv kev bov wrv opv q111.2 y7 y8 y10 y13 y15 q111.1 (y14 + 1) else fL_law_b706 L xs k42 qv kev bov wrv opv q111.2 y7 y8 y10 y13 y15 q111.1 (y14 + 0))))

noncomputable def fL_law_b643 (L : Nat) (xs : Nat → Int32) (k42 : (Nat → Int32) → (Nat → Int32) → (Nat → Int32) → (Nat → Int32) → (Nat → Int64) → CS → Int32 → Option (Int32)) (qv : Nat → Int32) (kev : Nat → Int32) (bov : Nat → Int32) (wrv : Nat → Int32) (opv : Nat → Int64) (cs : CS) (y7 : Int32) (y8 : Int32) (y10 : Int32) (y13 : Int32) (y14 : Int32) : Option (Int32) :=
  (if (0 : Int32) < 0 ∨ 4 ≤ (0 : Int32).toNatClampNeg then none else (if (qv (0 : Int32).toNatClampNeg) < y14 then fL_law_b677 L xs k42 qv kev bov wrv opv cs y7 y8 y10 y13 y14 0 else (if y13 < 0 then fL_law_b677 L xs k42 qv kev bov wrv opv cs y7 y8 y10 y13 y14 1 else (if ((4 * y13) + 3) < 0 ∨ 24 ≤ ((4 * y13) + 3).toNatClampNeg then none else (if (0 : Int32) < 0 ∨ 4 ≤ (0 : Int32).toNatClampNeg then none else (if (qv (0 : Int32).toNatClampNeg) ≤ (kev ((4 * y13) + 3).toNatClampNeg) then fL_law_b677 L xs k42 qv kev bov wrv opv cs y7 y8 y10 y13 y14 0 else fL_law_b677 L xs k42 qv kev bov wrv opv cs y7 y8 y10 y13 y14 1))))))

noncomputable def fL_law_b624 (L : Nat) (xs : Nat → Int32) (k42 : (Nat → Int32) → (Nat → Int32) → (Nat → Int32) → (Nat → Int32) → (Nat → Int64) → CS → Int32 → Option (Int32)) (qv : Nat → Int32) (kev : Nat → Int32) (bov : Nat → Int32) (wrv : Nat → Int32) (opv : Nat → Int64) (cs : CS) (y7 : Int32) (y8 : Int32) (y10 : Int32) : Option (Int32) :=
  (if (4 * y10) < 0 ∨ 24 ≤ (4 * y10).toNatClampNeg then none else ((fL_hang qv kev bov y10).bind fun q122 => fL_law_b643 L xs k42 qv kev bov wrv opv cs y7 y8 y10 (kev (4 * y10).toNatClampNeg) q122))

noncomputable def fL_law_b616 (L : Nat) (xs : Nat → Int32) (k42 : (Nat → Int32) → (Nat → Int32) → (Nat → Int32) → (Nat → Int32) → (Nat → Int64) → CS → Int32 → Option (Int32)) (qv : Nat → Int32) (kev : Nat → Int32) (bov : Nat → Int32) (wrv : Nat → Int32) (opv : Nat → Int64) (cs : CS) (y7 : Int32) (y8 : Int32) (y10 : Int32) (y11 : Int32) : Option (Int32) :=
  (if y11 = 0 then fL_law_b1229 L xs k42 qv kev bov wrv opv cs y7 else fL_law_b624 L xs k42 qv kev bov wrv opv cs y7 y8 y10)

noncomputable def fL_law_b609 (L : Nat) (xs : Nat → Int32) (k42 : (Nat → Int32) → (Nat → Int32) → (Nat → Int32) → (Nat → Int32) → (Nat → Int64) → CS → Int32 → Option (Int32)) (qv : Nat → Int32) (kev : Nat → Int32) (bov : Nat → Int32) (wrv : Nat → Int32) (opv : Nat → Int64) (cs : CS) (y7 : Int32) (y8 : Int32) (y9 : Int32) (y10 : Int32) (y11 : Int32) : Option (Int32) :=
  (if y9 = 6 then fL_law_b616 L xs k42 qv kev bov wrv opv cs y7 y8 y10 y11 else (if y9 = 7 then fL_law_b794 L xs k42 qv kev bov wrv opv cs y7 y8 else fL_law_b829 L xs k42 qv kev bov wrv opv cs y7 y8 y9 y10 y11))

noncomputable def fL_law_b580 (L : Nat) (xs : Nat → Int32) (k42 : (Nat → Int32) → (Nat → Int32) → (Nat → Int32) → (Nat → Int32) → (Nat → Int64) → CS → Int32 → Option (Int32)) (k434 : (Nat → Int32) → (Nat → Int32) → (Nat → Int32) → (Nat → Int32) → (Nat → Int64) → CS → Int32 → Int32 → Int32 → Option (Int32)) (qv : Nat → Int32) (kev : Nat → Int32) (bov : Nat → Int32) (wrv : Nat → Int32) (opv : Nat → Int64) (cs : CS) (y7 : Int32) (y8 : Int32) (y13 : Int32) (y14 : Int32) (y15 : Int32) (y16 : Int32) : Option (Int32) :=
  (if y16 = 0 then k434 qv kev bov wrv opv cs y7 y8 (y13 + 1) else (if y14 < 0 ∨ 64 ≤ y14.toNatClampNeg then none else (if y14 < 0 ∨ 64 ≤ y14.toNatClampNeg then none else k434 qv kev bov (upd wrv y14.toNatClampNeg ((wrv y14.toNatClampNeg) ||| (1 <<< ((19 + y15) &&& 31)))) opv cs y7 y8 (y13 + 1))))

noncomputable def fL_law_b555 (L : Nat) (xs : Nat → Int32) (k42 : (Nat → Int32) → (Nat → Int32) → (Nat → Int32) → (Nat → Int32) → (Nat → Int64) → CS → Int32 → Option (Int32)) (k434 : (Nat → Int32) → (Nat → Int32) → (Nat → Int32) → (Nat → Int32) → (Nat → Int64) → CS → Int32 → Int32 → Int32 → Option (Int32)) (qv : Nat → Int32) (kev : Nat → Int32) (bov : Nat → Int32) (wrv : Nat → Int32) (opv : Nat → Int64) (cs : CS) (y7 : Int32) (y8 : Int32) (y13 : Int32) (y14 : Int32) (y15 : Int32) (y16 : Int32) (y17 : Int32) : Option (Int32) :=
  ((sX7_copy cs y14 y15).bind fun q130 => (if y16 = 0 then (if q130.1 = (-5) then fL_law_b580 L xs k42 k434 qv kev bov wrv opv q130.2 y7 y8 y13 y14 y15 y16 else (some 0)) else (if q130.1 = y17 then fL_law_b580 L xs k42 k434 qv kev bov wrv opv q130.2 y7 y8 y13 y14 y15 y16 else (some 0))))

noncomputable def fL_law_b523 (L : Nat) (xs : Nat → Int32) (k42 : (Nat → Int32) → (Nat → Int32) → (Nat → Int32) → (Nat → Int32) → (Nat → Int64) → CS → Int32 → Option (Int32)) (k434 : (Nat → Int32) → (Nat → Int32) → (Nat → Int32) → (Nat → Int32) → (Nat → Int64) → CS → Int32 → Int32 → Int32 → Option (Int32)) : Nat → (Nat → Int32) → (Nat → Int32) → (Nat → Int32) → (Nat → Int32) → (Nat → Int64) → CS → Int32 → Int32 → Int32 → Int32 → Int32 → Int32 → Int32 → Int32 → Option (Int32)
  | 0, _, _, _, _, _, _, _, _, _, _, _, _, _, _ => none
  | fuel + 1, qv, kev, bov, wrv, opv, cs, y7, y8, y13, y14, y15, y16, y17, y18 =>
  (if (3 : Int32) < 0 ∨ 4 ≤ (3 : Int32).toNatClampNeg then none else (if (qv (3 : Int32).toNatClampNeg) ≤ y18 then fL_law_b555 L xs k42 k434 qv kev bov wrv opv cs y7 y8 y13 y14 y15 y16 y17 else (if y18 < 0 ∨ 64 ≤ y18.toNatClampNeg then none else fL_law_b523 L xs k42 k434 fuel qv kev bov wrv opv cs y7 y8 y13 y14 y15 y16 (y17 + (((wrv y18.toNatClampNeg) >>> ((19 + y15) &&& 31)) &&& 1)) (y18 + 1))))

noncomputable def fL_law_b508 (L : Nat) (xs : Nat → Int32) (k42 : (Nat → Int32) → (Nat → Int32) → (Nat → Int32) → (Nat → Int32) → (Nat → Int64) → CS → Int32 → Option (Int32)) (k434 : (Nat → Int32) → (Nat → Int32) → (Nat → Int32) → (Nat → Int32) → (Nat → Int64) → CS → Int32 → Int32 → Int32 → Option (Int32)) (qv : Nat → Int32) (kev : Nat → Int32) (bov : Nat → Int32) (wrv : Nat → Int32) (opv : Nat → Int64) (cs : CS) (y7 : Int32) (y8 : Int32) (y13 : Int32) (y14 : Int32) (y15 : Int32) (y16 : Int32) : Option (Int32) :=
  (if y16 = 0 then fL_law_b523 L xs k42 k434 6000 qv kev bov wrv opv cs y7 y8 y13 y14 y15 y16 0 0 else fL_law_b523 L xs k42 k434 6000 qv kev bov wrv opv cs y7 y8 y13 y14 y15 y16 1 0)

noncomputable def fL_law_b471 (L : Nat) (xs : Nat → Int32) (k42 : (Nat → Int32) → (Nat → Int32) → (Nat → Int32) → (Nat → Int32) → (Nat → Int64) → CS → Int32 → Option (Int32)) (k434 : (Nat → Int32) → (Nat → Int32) → (Nat → Int32) → (Nat → Int32) → (Nat → Int64) → CS → Int32 → Int32 → Int32 → Option (Int32)) (qv : Nat → Int32) (kev : Nat → Int32) (bov : Nat → Int32) (wrv : Nat → Int32) (opv : Nat → Int64) (cs : CS) (y7 : Int32) (y8 : Int32) (y13 : Int32) (y14 : Int32) (y15 : Int32) : Option (Int32) :=
  (if y14 < 0 ∨ 64 ≤ y14.toNatClampNeg then none else (if (((wrv y14.toNatClampNeg) >>> ((18 : Int32) &&& 31)) &&& 1) = 1 then (if y14 < 0 ∨ 64 ≤ y14.toNatClampNeg then none else (if (((wrv y14.toNatClampNeg) >>> ((19 + y15) &&& 31)) &&& 1) = 0 then fL_law_b508 L xs k42 k434 qv kev bov wrv opv cs y7 y8 y13 y14 y15 1 else fL_law_b508 L xs k42 k434 qv kev bov wrv opv cs y7 y8 y13 y14 y15 0)) else fL_law_b508 L xs k42 k434 qv kev bov wrv opv cs y7 y8 y13 y14 y15 0))

noncomputable def fL_law_b434 (L : Nat) (xs : Nat → Int32) (k42 : (Nat → Int32) → (Nat → Int32) → (Nat → Int32) → (Nat → Int32) → (Nat → Int64) → CS → Int32 → Option (Int32)) : Nat → (Nat → Int32) → (Nat → Int32) → (Nat → Int32) → (Nat → Int32) → (Nat → Int64) → CS → Int32 → Int32 → Int32 → Option (Int32)
  | 0, _, _, _, _, _, _, _, _, _ => none
  | fuel + 1, qv, kev, bov, wrv, opv, cs, y7, y8, y13 =>
  (if 3 ≤ y13 then fL_law_b1208 L xs k42 qv kev bov wrv opv cs y7 y8 else (if (3 : Int32) < 0 ∨ 4 ≤ (3 : Int32).toNatClampNeg then none else ((fL_low (y8 >>> ((4 + (2 * y13)) &&& 31)) (qv (3 : Int32).toNatClampNeg)).bind fun q145 => ((fL_low (y8 >>> ((9 + y13) &&& 31)) 3).bind fun q147 => fL_law_b471 L xs k42 (fL_law_b434 L xs k42 fuel) qv kev bov wrv opv cs y7 y8 y13 q145 q147))))

noncomputable def fL_law_b425 (L : Nat) (xs : Nat → Int32) (k42 : (Nat → Int32) → (Nat → Int32) → (Nat → Int32) → (Nat → Int32) → (Nat → Int64) → CS → Int32 → Option (Int32)) (qv : Nat → Int32) (kev : Nat → Int32) (bov : Nat → Int32) (wrv : Nat → Int32) (opv : Nat → Int64) (cs : CS) (y7 : Int32) (y8 : Int32) (y9 : Int32) (y10 : Int32) (y11 : Int32) : Option (Int32) :=
  (if (3 : Int32) < 0 ∨ 4 ≤ (3 : Int32).toNatClampNeg then none else (if (qv (3 : Int32).toNatClampNeg) ≤ 0 then fL_law_b609 L xs k42 qv kev bov wrv opv cs y7 y8 y9 y10 y11 else fL_law_b434 L xs k42 6000 qv kev bov wrv opv cs y7 y8 0))

noncomputable def fL_law_b274 (L : Nat) (xs : Nat → Int32) (k42 : (Nat → Int32) → (Nat → Int32) → (Nat → Int32) → (Nat → Int32) → (Nat → Int64) → CS → Int32 → Option (Int32)) (qv : Nat → Int32) (kev : Nat → Int32) (bov : Nat → Int32) (wrv : Nat → Int32) (opv : Nat → Int64) (cs : CS) (y7 : Int32) (y8 : Int32) (y10 : Int32) (y13 : Int32) (y14 : Int32) (z1 : Int32) (z2 : Int32) : Option (Int32) :=
  (if z1 < 0 ∨ 24 ≤ z1.toNatClampNeg then none else (if (y14 + 1) < 0 ∨ 24 ≤ (y14 + 1).toNatClampNeg then none else (if (1 : Int32) < 0 ∨ 4 ≤ (1 : Int32).toNatClampNeg then none else (if (1 : Int32) < 0 ∨ 4 ≤ (1 : Int32).toNatClampNeg then none else (if y13 = 0 then (if (1 : Int32) < 0 ∨ 4 ≤ (1 : Int32).toNatClampNeg then none else ((fL_wrap (upd qv (1 : Int32).toNatClampNeg ((qv (1 : Int32).toNatClampNeg) + 1)) (upd (upd kev z1.toNatClampNeg z2) (y14 + 1).toNatClampNeg 1) wrv (((upd qv (1 : Int32).toNatClampNeg ((qv (1 : Int32).toNatClampNeg) + 1)) (1 : Int32).toNatClampNeg) - 1) 0 y10).bind fun q157 => fL_law_b1208 L xs k42 q157.1 q157.2.1 bov q157.2.2 opv cs y7 y8)) else fL_law_b1208 L xs k42 (upd qv (1 : Int32).toNatClampNeg ((qv (1 : Int32).toNatClampNeg) + 1)) (upd (upd kev z1.toNatClampNeg z2) (y14 + 1).toNatClampNeg 1) bov wrv opv cs y7 y8)))))

noncomputable def fL_law_b253 (L : Nat) (xs : Nat → Int32) (k42 : (Nat → Int32) → (Nat → Int32) → (Nat → Int32) → (Nat → Int32) → (Nat → Int64) → CS → Int32 → Option (Int32)) (qv : Nat → Int32) (kev : Nat → Int32) (bov : Nat → Int32) (wrv : Nat → Int32) (opv : Nat → Int64) (cs : CS) (y7 : Int32) (y8 : Int32) (y10 : Int32) (y13 : Int32) : Option (Int32) :=
  (if (1 : Int32) < 0 ∨ 4 ≤ (1 : Int32).toNatClampNeg then none else (if y13 = 0 then fL_law_b274 L xs k42 qv kev bov wrv opv cs y7 y8 y10 y13 (4 * (qv (1 : Int32).toNatClampNeg)) (4 * (qv (1 : Int32).toNatClampNeg)) y10 else fL_law_b274 L xs k42 qv kev bov wrv opv cs y7 y8 y10 y13 (4 * (qv (1 : Int32).toNatClampNeg)) (4 * (qv (1 : Int32).toNatClampNeg)) (-1)))

noncomputable def fL_law_b235 (L : Nat) (xs : Nat → Int32) (k42 : (Nat → Int32) → (Nat → Int32) → (Nat → Int32) → (Nat → Int32) → (Nat → Int64) → CS → Int32 → Option (Int32)) (qv : Nat → Int32) (kev : Nat → Int32) (bov : Nat → Int32) (wrv : Nat → Int32) (opv : Nat → Int64) (cs : CS) (y7 : Int32) (y8 : Int32) (y10 : Int32) (y12 : Int32) (y13 : Int32) (z0 : Int32) (z1 : Int32) : Option (Int32) :=
  (if z0 = z1 then (if y13 = 0 then (if y12 = 0 then fL_law_b1229 L xs k42 qv kev bov wrv opv cs y7 else fL_law_b253 L xs k42 qv kev bov wrv opv cs y7 y8 y10 y13) else fL_law_b253 L xs k42 qv kev bov wrv opv cs y7 y8 y10 y13) else (some 0))

noncomputable def fL_law_b192 (L : Nat) (xs : Nat → Int32) (k42 : (Nat → Int32) → (Nat → Int32) → (Nat → Int32) → (Nat → Int32) → (Nat → Int64) → CS → Int32 → Option (Int32)) (qv : Nat → Int32) (kev : Nat → Int32) (bov : Nat → Int32) (wrv : Nat → Int32) (opv : Nat → Int64) (cs : CS) (y7 : Int32) (y8 : Int32) (y10 : Int32) (y11 : Int32) (y12 : Int32) (y13 : Int32) : Option (Int32) :=
  (if y13 = 0 then ((sX7_key cs y10).bind fun q165 => (if y13 = 0 then (if y12 = 0 then (if y11 = 0 then fL_law_b235 L xs k42 qv kev bov wrv opv q165.2 y7 y8 y10 y12 y13 q165.1 (-1) else fL_law_b235 L xs k42 qv kev bov wrv opv q165.2 y7 y8 y10 y12 y13 q165.1 (-5)) else (if (1 : Int32) < 0 ∨ 4 ≤ (1 : Int32).toNatClampNeg then none else fL_law_b235 L xs k42 qv kev bov wrv opv q165.2 y7 y8 y10 y12 y13 q165.1 (qv (1 : Int32).toNatClampNeg))) else (if (1 : Int32) < 0 ∨ 4 ≤ (1 : Int32).toNatClampNeg then none else fL_law_b235 L xs k42 qv kev bov wrv opv q165.2 y7 y8 y10 y12 y13 q165.1 (qv (1 : Int32).toNatClampNeg)))) else ((sX7_key cs (-6)).bind fun q172 => (if y13 = 0 then (if y12 = 0 then (if y11 = 0 then fL_law_b235 L xs k42 qv kev bov wrv opv q172.2 y7 y8 y10 y12 y13 q172.1 (-1) else fL_law_b235 L xs k42 qv kev bov wrv opv q172.2 y7 y8 y10 y12 y13 q172.1 (-5)) else (if (1 : Int32) < 0 ∨ 4 ≤ (1 : Int32).toNatClampNeg then none else fL_law_b235 L xs k42 qv kev bov wrv opv q172.2 y7 y8 y10 y12 y13 q172.1 (qv (1 : Int32).toNatClampNeg))) else (if (1 : Int32) < 0 ∨ 4 ≤ (1 : Int32).toNatClampNeg then none else fL_law_b235 L xs k42 qv kev bov wrv opv q172.2 y7 y8 y10 y12 y13 q172.1 (qv (1 : Int32).toNatClampNeg)))))

noncomputable def fL_law_b190 (L : Nat) (xs : Nat → Int32) (k42 : (Nat → Int32) → (Nat → Int32) → (Nat → Int32) → (Nat → Int32) → (Nat → Int64) → CS → Int32 → Option (Int32)) (qv : Nat → Int32) (kev : Nat → Int32) (bov : Nat → Int32) (wrv : Nat → Int32) (opv : Nat → Int64) (cs : CS) (y7 : Int32) (y8 : Int32) (y10 : Int32) (y11 : Int32) (y12 : Int32) (z0 : Int32) : Option (Int32) :=
  fL_law_b192 L xs k42 qv kev bov wrv opv cs y7 y8 y10 y11 y12 z0

noncomputable def fL_law_b167 (L : Nat) (xs : Nat → Int32) (k42 : (Nat → Int32) → (Nat → Int32) → (Nat → Int32) → (Nat → Int32) → (Nat → Int64) → CS → Int32 → Option (Int32)) (qv : Nat → Int32) (kev : Nat → Int32) (bov : Nat → Int32) (wrv : Nat → Int32) (opv : Nat → Int64) (cs : CS) (y7 : Int32) (y8 : Int32) (y10 : Int32) (y11 : Int32) (y12 : Int32) : Option (Int32) :=
  (if (1 : Int32) < 0 ∨ 4 ≤ (1 : Int32).toNatClampNeg then none else (if (qv (1 : Int32).toNatClampNeg) = 0 then fL_law_b190 L xs k42 qv kev bov wrv opv cs y7 y8 y10 y11 y12 1 else ((fL_low (y8 >>> ((7 : Int32) &&& 31)) 5).bind fun q181 => (if q181 = 0 then fL_law_b190 L xs k42 qv kev bov wrv opv cs y7 y8 y10 y11 y12 1 else fL_law_b190 L xs k42 qv kev bov wrv opv cs y7 y8 y10 y11 y12 0))))

noncomputable def fL_law_b156 (L : Nat) (xs : Nat → Int32) (k42 : (Nat → Int32) → (Nat → Int32) → (Nat → Int32) → (Nat → Int32) → (Nat → Int64) → CS → Int32 → Option (Int32)) (qv : Nat → Int32) (kev : Nat → Int32) (bov : Nat → Int32) (wrv : Nat → Int32) (opv : Nat → Int64) (cs : CS) (y7 : Int32) (y8 : Int32) (y10 : Int32) (y11 : Int32) (y12 : Int32) : Option (Int32) :=
  (if (1 : Int32) < 0 ∨ 4 ≤ (1 : Int32).toNatClampNeg then none else (if (qv (1 : Int32).toNatClampNeg) = 6 then fL_law_b1229 L xs k42 qv kev bov wrv opv cs y7 else fL_law_b167 L xs k42 qv kev bov wrv opv cs y7 y8 y10 y11 y12))

noncomputable def fL_law_b150 (L : Nat) (xs : Nat → Int32) (k42 : (Nat → Int32) → (Nat → Int32) → (Nat → Int32) → (Nat → Int32) → (Nat → Int64) → CS → Int32 → Option (Int32)) (qv : Nat → Int32) (kev : Nat → Int32) (bov : Nat → Int32) (wrv : Nat → Int32) (opv : Nat → Int64) (cs : CS) (y7 : Int32) (y8 : Int32) (y9 : Int32) (y10 : Int32) (y11 : Int32) (y12 : Int32) : Option (Int32) :=
  (if 3 ≤ y9 then (if y9 = 3 then fL_law_b324 L xs k42 qv kev bov wrv opv cs y7 y8 y10 y11 y12 else (if y9 = 4 then fL_law_b324 L xs k42 qv kev bov wrv opv cs y7 y8 y10 y11 y12 else (if y9 = 5 then fL_law_b425 L xs k42 qv kev bov wrv opv cs y7 y8 y9 y10 y11 else fL_law_b609 L xs k42 qv kev bov wrv opv cs y7 y8 y9 y10 y11))) else fL_law_b156 L xs k42 qv kev bov wrv opv cs y7 y8 y10 y11 y12)

noncomputable def fL_law_b139 (L : Nat) (xs : Nat → Int32) (k42 : (Nat → Int32) → (Nat → Int32) → (Nat → Int32) → (Nat → Int32) → (Nat → Int64) → CS → Int32 → Option (Int32)) (qv : Nat → Int32) (kev : Nat → Int32) (bov : Nat → Int32) (wrv : Nat → Int32) (opv : Nat → Int64) (cs : CS) (y7 : Int32) (y8 : Int32) (y9 : Int32) (y10 : Int32) (y11 : Int32) (y12 : Int32) : Option (Int32) :=
  (if (3 : Int32) < 0 ∨ 4 ≤ (3 : Int32).toNatClampNeg then none else (if (qv (3 : Int32).toNatClampNeg) ≤ 50 then fL_law_b150 L xs k42 qv kev bov wrv opv cs y7 y8 y9 y10 y11 y12 else fL_law_b1229 L xs k42 qv kev bov wrv opv cs y7))

noncomputable def fL_law_b137 (L : Nat) (xs : Nat → Int32) (k42 : (Nat → Int32) → (Nat → Int32) → (Nat → Int32) → (Nat → Int32) → (Nat → Int64) → CS → Int32 → Option (Int32)) (qv : Nat → Int32) (kev : Nat → Int32) (bov : Nat → Int32) (wrv : Nat → Int32) (opv : Nat → Int64) (cs : CS) (y7 : Int32) (y8 : Int32) (y9 : Int32) (y10 : Int32) (y11 : Int32) (z0 : Int32) : Option (Int32) :=
  fL_law_b139 L xs k42 qv kev bov wrv opv cs y7 y8 y9 y10 y11 z0

noncomputable def fL_law_b88 (L : Nat) (xs : Nat → Int32) (k42 : (Nat → Int32) → (Nat → Int32) → (Nat → Int32) → (Nat → Int32) → (Nat → Int64) → CS → Int32 → Option (Int32)) (qv : Nat → Int32) (kev : Nat → Int32) (bov : Nat → Int32) (wrv : Nat → Int32) (opv : Nat → Int64) (cs : CS) (y7 : Int32) (y8 : Int32) (y9 : Int32) (y10 : Int32) : Option (Int32) :=
  (if (1 : Int32) < 0 ∨ 4 ≤ (1 : Int32).toNatClampNeg then none else (if (qv (1 : Int32).toNatClampNeg) ≤ 0 then fL_law_b137 L xs k42 qv kev bov wrv opv cs y7 y8 y9 y10 0 0 else (if ((4 * y10) + 1) < 0 ∨ 24 ≤ ((4 * y10) + 1).toNatClampNeg then none else (if (kev ((4 * y10) + 1).toNatClampNeg) = 1 then (if ((4 * y10) + 3) < 0 ∨ 24 ≤ ((4 * y10) + 3).toNatClampNeg then none else (if (0 : Int32) < 0 ∨ 4 ≤ (0 : Int32).toNatClampNeg then none else (if (qv (0 : Int32).toNatClampNeg) ≤ (kev ((4 * y10) + 3).toNatClampNeg) then fL_law_b137 L xs k42 qv kev bov wrv opv cs y7 y8 y9 y10 1 0 else fL_law_b137 L xs k42 qv kev bov wrv opv cs y7 y8 y9 y10 1 1))) else fL_law_b137 L xs k42 qv kev bov wrv opv cs y7 y8 y9 y10 0 0))))

noncomputable def fL_law_b86 (L : Nat) (xs : Nat → Int32) (k42 : (Nat → Int32) → (Nat → Int32) → (Nat → Int32) → (Nat → Int32) → (Nat → Int64) → CS → Int32 → Option (Int32)) (qv : Nat → Int32) (kev : Nat → Int32) (bov : Nat → Int32) (wrv : Nat → Int32) (opv : Nat → Int64) (cs : CS) (y7 : Int32) (y8 : Int32) (y9 : Int32) (z0 : Int32) : Option (Int32) :=
  fL_law_b88 L xs k42 qv kev bov wrv opv cs y7 y8 y9 z0

noncomputable def fL_law_b42 (L : Nat) (xs : Nat → Int32) : Nat → (Nat → Int32) → (Nat → Int32) → (Nat → Int32) → (Nat → Int32) → (Nat → Int64) → CS → Int32 → Option (Int32)
  | 0, _, _, _, _, _, _, _ => none
  | fuel + 1, qv, kev, bov, wrv, opv, cs, y7 =>
  (if 18 ≤ y7 then (some 1) else ((fL_cell L xs y7).bind fun q203 => ((fL_low q203 10).bind fun q205 => (if (1 : Int32) < 0 ∨ 4 ≤ (1 : Int32).toNatClampNeg then none else (if (qv (1 : Int32).toNatClampNeg) = 0 then fL_law_b86 L xs (fL_law_b42 L xs fuel) qv kev bov wrv opv cs y7 q203 q205 0 else (if (1 : Int32) < 0 ∨ 4 ≤ (1 : Int32).toNatClampNeg then none else ((fL_low (q203 >>> ((4 : Int32) &&& 31)) (qv (1 : Int32).toNatClampNeg)).bind fun q210 => fL_law_b86 L xs (fL_law_b42 L xs fuel) qv kev bov wrv opv cs y7 q203 q205 q210)))))))

set_option maxHeartbeats 4000000 in
set_option maxRecDepth 100000 in
theorem law_run {p : Program} {l : Launch} {e : Env} {s : State} {m : MethodId} {below : List Frame} {meth : Method} {c : Code} {dC : Nat → ClassId} {dI : Nat → Nat → Nat} {cyI cyO cyL : ClassId} {b L : Nat} {xs : Nat → Int32} (C0 : lw_At p s m meth c b L xs) (hK : KK dC dI cyI cyO cyL s) (ad : Nat → Nat) (had : Nat → Nat → Nat) (aq ak ab aw ao : Nat) {A : Nat → Prop} (hA : ∀ q : Nat, s.heap.size ≤ q → A q) (hAd : ∀ q : Nat, A q → s.heap.size ≤ q) :
    ∀ (fuel : Nat) (qv : Nat → Int32) (kev : Nat → Int32) (bov : Nat → Int32) (wrv : Nat → Int32) (opv : Nat → Int64) (cs : CS) (y7 : Int32), fL_law_b42 L xs fuel qv kev bov wrv opv cs y7 = some 1 → ∀ (H : Heap) (locs : List Loc), va_P (dC, dI) vwCl (((arrW cyI aq 4 qv) ++ (arrW cyI ak 24 kev) ++ (arrW cyI ab 12 bov) ++ (arrW cyI aw 64 wrv) ++ (larrW cyL ao 2 opv)) ++ mainC cyI cyO cyL ad had cs) H → va_D A (((arrW cyI aq 4 qv) ++ (arrW cyI ak 24 kev) ++ (arrW cyI ab 12 bov) ++ (arrW cyI aw 64 wrv) ++ (larrW cyL ao 2 opv)) ++ mainC cyI cyO cyL ad had cs) → va_S A s.heap H locs → ∀ ls : Array Slot, lv_has ls 21 [(0, .ref b), (1, .ref (ad 0)), (2, .ref aq), (3, .ref ak), (4, .ref ab), (5, .ref aw), (6, .ref ao), (7, .int y7)] → W p l e room_1 s m (#[Value.ref b]) below meth c H locs 185 5982 (lw_Z below #[Value.ref b] s) (F0 m 42 ls []) := by
  obtain ⟨hx, hb, hr, hml, hown, hts, hX, hbl, hlocks, hgv⟩ := C0
  have hbA : ¬ A b := fun q => absurd (hAd b q) (Nat.not_le.mpr hbl)
  have kB1229 : ∀ (k42 : (Nat → Int32) → (Nat → Int32) → (Nat → Int32) → (Nat → Int32) → (Nat → Int64) → CS → Int32 → Option (Int32)) (hk42 : ∀ (qv : Nat → Int32) (kev : Nat → Int32) (bov : Nat → Int32) (wrv : Nat → Int32) (opv : Nat → Int64) (cs : CS) (y7 : Int32), k42 qv kev bov wrv opv cs y7 = some 1 → ∀ (H : Heap) (locs : List Loc), va_P (dC, dI) vwCl (((arrW cyI aq 4 qv) ++ (arrW cyI ak 24 kev) ++ (arrW cyI ab 12 bov) ++ (arrW cyI aw 64 wrv) ++ (larrW cyL ao 2 opv)) ++ mainC cyI cyO cyL ad had cs) H → va_D A (((arrW cyI aq 4 qv) ++ (arrW cyI ak 24 kev) ++ (arrW cyI ab 12 bov) ++ (arrW cyI aw 64 wrv) ++ (larrW cyL ao 2 opv)) ++ mainC cyI cyO cyL ad had cs) → va_S A s.heap H locs → ∀ ls : Array Slot, lv_has ls 21 [(0, .ref b), (1, .ref (ad 0)), (2, .ref aq), (3, .ref ak), (4, .ref ab), (5, .ref aw), (6, .ref ao), (7, .int y7)] → W p l e room_1 s m (#[Value.ref b]) below meth c H locs 185 5982 (lw_Z below #[Value.ref b] s) (F0 m 42 ls [])) (qv : Nat → Int32) (kev : Nat → Int32) (bov : Nat → Int32) (wrv : Nat → Int32) (opv : Nat → Int64) (cs : CS) (y7 : Int32), fL_law_b1229 L xs k42 qv kev bov wrv opv cs y7 = some 1 → ∀ (H : Heap) (locs : List Loc), va_P (dC, dI) vwCl (((arrW cyI aq 4 qv) ++ (arrW cyI ak 24 kev) ++ (arrW cyI ab 12 bov) ++ (arrW cyI aw 64 wrv) ++ (larrW cyL ao 2 opv)) ++ mainC cyI cyO cyL ad had cs) H → va_D A (((arrW cyI aq 4 qv) ++ (arrW cyI ak 24 kev) ++ (arrW cyI ab 12 bov) ++ (arrW cyI aw 64 wrv) ++ (larrW cyL ao 2 opv)) ++ mainC cyI cyO cyL ad had cs) → va_S A s.heap H locs → ∀ ls : Array Slot, lv_has ls 21 [(0, .ref b), (1, .ref (ad 0)), (2, .ref aq), (3, .ref ak), (4, .ref ab), (5, .ref aw), (6, .ref ao), (7, .int y7)] → W p l e room_1 s m (#[Value.ref b]) below meth c H locs 185 5982 (lw_Z below #[Value.ref b] s) (F0 m 1229 ls []) := by
    intro k42 hk42 qv kev bov wrv opv cs y7 h H locs hP hD hS ls hl
    unfold fL_law_b1229 at h
    refine lv_iinc (v := (y7 + 1)) (lv' := [(7, .int (y7 + 1)), (0, .ref b), (1, .ref (ad 0)), (2, .ref aq), (3, .ref ak), (4, .ref ab), (5, .ref aw), (6, .ref ao)]) hx hb dL_law_1229 hl (k := 7) rfl rfl (by decide) rfl (fun ls hl => ?_)
    refine lv_goto (tgt := 42) hx hb dL_law_1232 (by decide) ?_
    exact hk42 qv kev bov wrv opv cs (y7 + 1) h _ _ hP hD hS ls (lv_sub hl [1, 2, 3, 4, 5, 6, 7, 0] rfl)
  have kB1208 : ∀ (k42 : (Nat → Int32) → (Nat → Int32) → (Nat → Int32) → (Nat → Int32) → (Nat → Int64) → CS → Int32 → Option (Int32)) (hk42 : ∀ (qv : Nat → Int32) (kev : Nat → Int32) (bov : Nat → Int32) (wrv : Nat → Int32) (opv : Nat → Int64) (cs : CS) (y7 : Int32), k42 qv kev bov wrv opv cs y7 = some 1 → ∀ (H : Heap) (locs : List Loc), va_P (dC, dI) vwCl (((arrW cyI aq 4 qv) ++ (arrW cyI ak 24 kev) ++ (arrW cyI ab 12 bov) ++ (arrW cyI aw 64 wrv) ++ (larrW cyL ao 2 opv)) ++ mainC cyI cyO cyL ad had cs) H → va_D A (((arrW cyI aq 4 qv) ++ (arrW cyI ak 24 kev) ++ (arrW cyI ab 12 bov) ++ (arrW cyI aw 64 wrv) ++ (larrW cyL ao 2 opv)) ++ mainC cyI cyO cyL ad had cs) → va_S A s.heap H locs → ∀ ls : Array Slot, lv_has ls 21 [(0, .ref b), (1, .ref (ad 0)), (2, .ref aq), (3, .ref ak), (4, .ref ab), (5, .ref aw), (6, .ref ao), (7, .int y7)] → W p l e room_1 s m (#[Value.ref b]) below meth c H locs 185 5982 (lw_Z below #[Value.ref b] s) (F0 m 42 ls [])) (qv : Nat → Int32) (kev : Nat → Int32) (bov : Nat → Int32) (wrv : Nat → Int32) (opv : Nat → Int64) (cs : CS) (y7 : Int32) (y8 : Int32), fL_law_b1208 L xs k42 qv kev bov wrv opv cs y7 y8 = some 1 → ∀ (H : Heap) (locs : List Loc), va_P (dC, dI) vwCl (((arrW cyI aq 4 qv) ++ (arrW cyI ak 24 kev) ++ (arrW cyI ab 12 bov) ++ (arrW cyI aw 64 wrv) ++ (larrW cyL ao 2 opv)) ++ mainC cyI cyO cyL ad had cs) H → va_D A (((arrW cyI aq 4 qv) ++ (arrW cyI ak 24 kev) ++ (arrW cyI ab 12 bov) ++ (arrW cyI aw 64 wrv) ++ (larrW cyL ao 2 opv)) ++ mainC cyI cyO cyL ad had cs) → va_S A s.heap H locs → ∀ ls : Array Slot, lv_has ls 21 [(0, .ref b), (1, .ref (ad 0)), (2, .ref aq), (3, .ref ak), (4, .ref ab), (5, .ref aw), (6, .ref ao), (7, .int y7), (8, .int y8)] → W p l e room_1 s m (#[Value.ref b]) below meth c H locs 185 5982 (lw_Z below #[Value.ref b] s) (F0 m 1208 ls []) := by
    intro k42 hk42 qv kev bov wrv opv cs y7 y8 h H locs hP hD hS ls hl
    unfold fL_law_b1208 at h
    refine lv_aload_n hx hb dL_law_1208 rfl (lv_at hl 1 rfl) ?_
    refine lv_iload hx hb dL_law_1209 (lv_at hl 8 rfl) ?_
    refine lv_iconst (v := 2) hx hb dL_law_1211 (by decide) ?_
    refine lv_ishr hx hb dL_law_1212 ?_
    refine lv_aload_n hx hb dL_law_1213 rfl (lv_at hl 2 rfl) ?_
    refine lv_aload_n hx hb dL_law_1214 rfl (lv_at hl 3 rfl) ?_
    refine lv_aload hx hb dL_law_1215 (lv_at hl 4 rfl) ?_
    refine lv_aload hx hb dL_law_1217 (lv_at hl 5 rfl) ?_
    refine lv_aload hx hb dL_law_1219 (lv_at hl 6 rfl) ?_
    obtain ⟨q1, e2, h⟩ := ob h
    have hLL : ∀ X : va_W, X.Perm (X ++ []) := fun X => by rw [List.append_nil]
    refine fr_iG (M := (((arrW cyI aq 4 qv) ++ (arrW cyI ak 24 kev) ++ (arrW cyI ab 12 bov) ++ (arrW cyI aw 64 wrv) ++ (larrW cyL ao 2 opv)) ++ mainC cyI cyO cyL ad had cs)) (M' := (((arrW cyI aq 4 qv) ++ (arrW cyI ak 24 kev) ++ (arrW cyI ab 12 bov) ++ (arrW cyI aw 64 wrv) ++ (larrW cyL ao 2 q1.2.1)) ++ mainC cyI cyO cyL ad had q1.2.2)) (L' := (((arrW cyI aq 4 qv) ++ (arrW cyI ak 24 kev) ++ (arrW cyI ab 12 bov) ++ (arrW cyI aw 64 wrv) ++ (larrW cyL ao 2 q1.2.1)) ++ mainC cyI cyO cyL ad had q1.2.2)) (F := []) (va_runS (As := [.ref (ad 0), .int (y8 >>> ((2 : Int32) &&& 31)), .ref aq, .ref ak, .ref ab, .ref aw, .ref ao]) (rest := []) ⟨hx, hb, hml, hown, hts⟩ (mL_same l dC dI cyI cyO cyL aq ak ab aw ao ad had qv kev bov wrv opv cs (y8 >>> ((2 : Int32) &&& 31)) _ q1 e2) (va_cwS 7 hts (gSL ml_L_123 st_L_same in_L co_L_same) rfl rfl rfl (by decide +kernel) ⟨Nat.le_of_ble_eq_true rfl, Nat.le_of_ble_eq_true rfl⟩) (cP_SG hK hP hD (hLL _)) rfl rfl hl.1 rfl (lv_room (Nat.le_of_ble_eq_true rfl)) dL_law_1221 ⟨Nat.le_of_ble_eq_true rfl, Nat.le_of_ble_eq_true rfl⟩) hP hD hS hA (hLL _) (hLL _) (lawW_ads rfl) (fun H locs hP hD hS => ?_)
    refine lv_if_ne (tgt := 1229) hx hb dL_law_1224 (by decide) (fun c3 => ?_) (fun c3 => ?_)
    · have h := (if_neg c3).symm.trans h
      exact kB1229 k42 hk42 qv kev bov wrv q1.2.1 q1.2.2 y7 h _ _ hP hD hS ls (lv_sub hl [0, 1, 2, 3, 4, 5, 6, 7] rfl)
    · have h := (if_pos c3).symm.trans h
      refine lv_iconst (v := 0) hx hb dL_law_1227 (by decide) ?_
      exact absurd (Option.some.inj h) (by decide)
  have kB376 : ∀ (k42 : (Nat → Int32) → (Nat → Int32) → (Nat → Int32) → (Nat → Int32) → (Nat → Int64) → CS → Int32 → Option (Int32)) (hk42 : ∀ (qv : Nat → Int32) (kev : Nat → Int32) (bov : Nat → Int32) (wrv : Nat → Int32) (opv : Nat → Int64) (cs : CS) (y7 : Int32), k42 qv kev bov wrv opv cs y7 = some 1 → ∀ (H : Heap) (locs : List Loc), va_P (dC, dI) vwCl (((arrW cyI aq 4 qv) ++ (arrW cyI ak 24 kev) ++ (arrW cyI ab 12 bov) ++ (arrW cyI aw 64 wrv) ++ (larrW cyL ao 2 opv)) ++ mainC cyI cyO cyL ad had cs) H → va_D A (((arrW cyI aq 4 qv) ++ (arrW cyI ak 24 kev) ++ (arrW cyI ab 12 bov) ++ (arrW cyI aw 64 wrv) ++ (larrW cyL ao 2 opv)) ++ mainC cyI cyO cyL ad had cs) → va_S A s.heap H locs → ∀ ls : Array Slot, lv_has ls 21 [(0, .ref b), (1, .ref (ad 0)), (2, .ref aq), (3, .ref ak), (4, .ref ab), (5, .ref aw), (6, .ref ao), (7, .int y7)] → W p l e room_1 s m (#[Value.ref b]) below meth c H locs 185 5982 (lw_Z below #[Value.ref b] s) (F0 m 42 ls [])) (qv : Nat → Int32) (kev : Nat → Int32) (bov : Nat → Int32) (wrv : Nat → Int32) (opv : Nat → Int64) (cs : CS) (y7 : Int32) (y8 : Int32) (y10 : Int32), fL_law_b376 L xs k42 qv kev bov wrv opv cs y7 y8 y10 = some 1 → ∀ (H : Heap) (locs : List Loc), va_P (dC, dI) vwCl (((arrW cyI aq 4 qv) ++ (arrW cyI ak 24 kev) ++ (arrW cyI ab 12 bov) ++ (arrW cyI aw 64 wrv) ++ (larrW cyL ao 2 opv)) ++ mainC cyI cyO cyL ad had cs) H → va_D A (((arrW cyI aq 4 qv) ++ (arrW cyI ak 24 kev) ++ (arrW cyI ab 12 bov) ++ (arrW cyI aw 64 wrv) ++ (larrW cyL ao 2 opv)) ++ mainC cyI cyO cyL ad had cs) → va_S A s.heap H locs → ∀ ls : Array Slot, lv_has ls 21 [(0, .ref b), (1, .ref (ad 0)), (2, .ref aq), (3, .ref ak), (4, .ref ab), (5, .ref aw), (6, .ref ao), (7, .int y7), (8, .int y8), (10, .int y10)] → W p l e room_1 s m (#[Value.ref b]) below meth c H locs 185 5982 (lw_Z below #[Value.ref b] s) (F0 m 376 ls []) := by
    intro k42 hk42 qv kev bov wrv opv cs y7 y8 y10 h H locs hP hD hS ls hl
    unfold fL_law_b376 at h
    refine lv_aload hx hb dL_law_376 (lv_at hl 4 rfl) ?_
    refine lv_iconst (v := 2) hx hb dL_law_378 (by decide) ?_
    refine lv_aload_n hx hb dL_law_379 rfl (lv_at hl 2 rfl) ?_
    refine lv_iconst (v := 2) hx hb dL_law_380 (by decide) ?_
    obtain ⟨ni4, h⟩ := ifn h
    refine va_iald hx hb hK.1 hP 0 0 rfl rfl ni4 dL_law_381 ?_
    refine lv_imul hx hb dL_law_382 ?_
    refine lv_iload hx hb dL_law_383 (lv_at hl 9 rfl) ?_
    obtain ⟨ni5, h⟩ := ifn h
    refine va_iast hx hb hK.1 hP hD hS 2 0 rfl rfl ni5 dL_law_385 (fun H locs hP hD hS => ?_)
    have hP : va_P (dC, dI) vwCl (((arrW cyI aq 4 qv) ++ (arrW cyI ak 24 kev) ++ (arrW cyI ab 12 (upd bov (2 * (qv (2 : Int32).toNatClampNeg)).toNatClampNeg y10)) ++ (arrW cyI aw 64 wrv) ++ (larrW cyL ao 2 opv)) ++ mainC cyI cyO cyL ad had cs) H := hP
    have hD : va_D A (((arrW cyI aq 4 qv) ++ (arrW cyI ak 24 kev) ++ (arrW cyI ab 12 (upd bov (2 * (qv (2 : Int32).toNatClampNeg)).toNatClampNeg y10)) ++ (arrW cyI aw 64 wrv) ++ (larrW cyL ao 2 opv)) ++ mainC cyI cyO cyL ad had cs) := hD
    refine lv_aload hx hb dL_law_386 (lv_at hl 4 rfl) ?_
    refine lv_iconst (v := 2) hx hb dL_law_388 (by decide) ?_
    refine lv_aload_n hx hb dL_law_389 rfl (lv_at hl 2 rfl) ?_
    refine lv_iconst (v := 2) hx hb dL_law_390 (by decide) ?_
    obtain ⟨ni6, h⟩ := ifn h
    refine va_iald hx hb hK.1 hP 0 0 rfl rfl ni6 dL_law_391 ?_
    refine lv_imul hx hb dL_law_392 ?_
    refine lv_iconst (v := 1) hx hb dL_law_393 (by decide) ?_
    refine lv_iadd hx hb dL_law_394 ?_
    refine lv_iconst (v := 1) hx hb dL_law_395 (by decide) ?_
    obtain ⟨ni7, h⟩ := ifn h
    refine va_iast hx hb hK.1 hP hD hS 2 0 rfl rfl ni7 dL_law_396 (fun H locs hP hD hS => ?_)
    have hP : va_P (dC, dI) vwCl (((arrW cyI aq 4 qv) ++ (arrW cyI ak 24 kev) ++ (arrW cyI ab 12 (upd (upd bov (2 * (qv (2 : Int32).toNatClampNeg)).toNatClampNeg y10) ((2 * (qv (2 : Int32).toNatClampNeg)) + 1).toNatClampNeg 1)) ++ (arrW cyI aw 64 wrv) ++ (larrW cyL ao 2 opv)) ++ mainC cyI cyO cyL ad had cs) H := hP
    have hD : va_D A (((arrW cyI aq 4 qv) ++ (arrW cyI ak 24 kev) ++ (arrW cyI ab 12 (upd (upd bov (2 * (qv (2 : Int32).toNatClampNeg)).toNatClampNeg y10) ((2 * (qv (2 : Int32).toNatClampNeg)) + 1).toNatClampNeg 1)) ++ (arrW cyI aw 64 wrv) ++ (larrW cyL ao 2 opv)) ++ mainC cyI cyO cyL ad had cs) := hD
    refine lv_bipush (v := 7) hx hb dL_law_397 (by decide) ?_
    refine lv_aload_n hx hb dL_law_399 rfl (lv_at hl 2 rfl) ?_
    refine lv_iconst (v := 2) hx hb dL_law_400 (by decide) ?_
    refine lv_dup2_11 hx hb dL_law_401 rfl rfl ?_
    obtain ⟨ni8, h⟩ := ifn h
    refine va_iald hx hb hK.1 hP 0 0 rfl rfl ni8 dL_law_402 ?_
    refine lv_dup_x2 hx hb dL_law_403 rfl rfl rfl ?_
    refine lv_iconst (v := 1) hx hb dL_law_404 (by decide) ?_
    refine lv_iadd hx hb dL_law_405 ?_
    obtain ⟨ni9, h⟩ := ifn h
    refine va_iast hx hb hK.1 hP hD hS 0 0 rfl rfl ni9 dL_law_406 (fun H locs hP hD hS => ?_)
    have hP : va_P (dC, dI) vwCl (((arrW cyI aq 4 (upd qv (2 : Int32).toNatClampNeg ((qv (2 : Int32).toNatClampNeg) + 1))) ++ (arrW cyI ak 24 kev) ++ (arrW cyI ab 12 (upd (upd bov (2 * (qv (2 : Int32).toNatClampNeg)).toNatClampNeg y10) ((2 * (qv (2 : Int32).toNatClampNeg)) + 1).toNatClampNeg 1)) ++ (arrW cyI aw 64 wrv) ++ (larrW cyL ao 2 opv)) ++ mainC cyI cyO cyL ad had cs) H := hP
    have hD : va_D A (((arrW cyI aq 4 (upd qv (2 : Int32).toNatClampNeg ((qv (2 : Int32).toNatClampNeg) + 1))) ++ (arrW cyI ak 24 kev) ++ (arrW cyI ab 12 (upd (upd bov (2 * (qv (2 : Int32).toNatClampNeg)).toNatClampNeg y10) ((2 * (qv (2 : Int32).toNatClampNeg)) + 1).toNatClampNeg 1)) ++ (arrW cyI aw 64 wrv) ++ (larrW cyL ao 2 opv)) ++ mainC cyI cyO cyL ad had cs) := hD
    refine lv_iload hx hb dL_law_407 (lv_at hl 9 rfl) ?_
    refine lv_aload_n hx hb dL_law_409 rfl (lv_at hl 2 rfl) ?_
    refine lv_aload_n hx hb dL_law_410 rfl (lv_at hl 3 rfl) ?_
    refine lv_aload hx hb dL_law_411 (lv_at hl 5 rfl) ?_
    obtain ⟨q10, e11, h⟩ := ob h
    refine fr_vK (L1 := ((arrW cyI aq 4 (upd qv (2 : Int32).toNatClampNeg ((qv (2 : Int32).toNatClampNeg) + 1))) ++ (arrW cyI ak 24 kev) ++ (arrW cyI ab 12 (upd (upd bov (2 * (qv (2 : Int32).toNatClampNeg)).toNatClampNeg y10) ((2 * (qv (2 : Int32).toNatClampNeg)) + 1).toNatClampNeg 1)) ++ (arrW cyI aw 64 wrv) ++ (larrW cyL ao 2 opv))) (M := ((arrW cyI aq 4 (upd qv (2 : Int32).toNatClampNeg ((qv (2 : Int32).toNatClampNeg) + 1))) ++ (arrW cyI ak 24 kev) ++ (arrW cyI aw 64 wrv))) (M' := ((arrW cyI aq 4 q10.1) ++ (arrW cyI ak 24 q10.2.1) ++ (arrW cyI aw 64 q10.2.2))) (L2 := ((arrW cyI aq 4 q10.1) ++ (arrW cyI ak 24 q10.2.1) ++ (arrW cyI ab 12 (upd (upd bov (2 * (qv (2 : Int32).toNatClampNeg)).toNatClampNeg y10) ((2 * (qv (2 : Int32).toNatClampNeg)) + 1).toNatClampNeg 1)) ++ (arrW cyI aw 64 q10.2.2) ++ (larrW cyL ao 2 opv))) (va_runS (As := [.int 7, .int (qv (2 : Int32).toNatClampNeg), .int y10, .ref aq, .ref ak, .ref aw]) (rest := []) ⟨hx, hb, hml, hown, hts⟩ (mL_wrap l dC dI cyI cyO cyL aq ak aw (upd qv (2 : Int32).toNatClampNeg ((qv (2 : Int32).toNatClampNeg) + 1)) kev wrv 7 (qv (2 : Int32).toNatClampNeg) y10 _ q10 e11) (va_cwS 6 hts (gSL ml_L_17 st_L_wrap in_L co_L_wrap) rfl rfl rfl (by decide +kernel) ⟨Nat.le_of_ble_eq_true rfl, Nat.le_of_ble_eq_true rfl⟩) (cP_S hK hP hD [0, 1, 3] rfl rfl) rfl rfl hl.1 rfl (lv_room (Nat.le_of_ble_eq_true rfl)) dL_law_413 ⟨Nat.le_of_ble_eq_true rfl, Nat.le_of_ble_eq_true rfl⟩) hP hD hS hA [0, 1, 3] rfl [(true, 0), (true, 1), (false, 2), (true, 2), (false, 4)] rfl rfl rfl (fun H locs hP hD hS => ?_)
    refine lv_goto (tgt := 1208) hx hb dL_law_416 (by decide) ?_
    exact kB1208 k42 hk42 q10.1 q10.2.1 (upd (upd bov (2 * (qv (2 : Int32).toNatClampNeg)).toNatClampNeg y10) ((2 * (qv (2 : Int32).toNatClampNeg)) + 1).toNatClampNeg 1) q10.2.2 opv cs y7 y8 h _ _ hP hD hS ls (lv_sub hl [0, 1, 2, 3, 4, 5, 6, 7, 8] rfl)
  have kB363 : ∀ (k42 : (Nat → Int32) → (Nat → Int32) → (Nat → Int32) → (Nat → Int32) → (Nat → Int64) → CS → Int32 → Option (Int32)) (hk42 : ∀ (qv : Nat → Int32) (kev : Nat → Int32) (bov : Nat → Int32) (wrv : Nat → Int32) (opv : Nat → Int64) (cs : CS) (y7 : Int32), k42 qv kev bov wrv opv cs y7 = some 1 → ∀ (H : Heap) (locs : List Loc), va_P (dC, dI) vwCl (((arrW cyI aq 4 qv) ++ (arrW cyI ak 24 kev) ++ (arrW cyI ab 12 bov) ++ (arrW cyI aw 64 wrv) ++ (larrW cyL ao 2 opv)) ++ mainC cyI cyO cyL ad had cs) H → va_D A (((arrW cyI aq 4 qv) ++ (arrW cyI ak 24 kev) ++ (arrW cyI ab 12 bov) ++ (arrW cyI aw 64 wrv) ++ (larrW cyL ao 2 opv)) ++ mainC cyI cyO cyL ad had cs) → va_S A s.heap H locs → ∀ ls : Array Slot, lv_has ls 21 [(0, .ref b), (1, .ref (ad 0)), (2, .ref aq), (3, .ref ak), (4, .ref ab), (5, .ref aw), (6, .ref ao), (7, .int y7)] → W p l e room_1 s m (#[Value.ref b]) below meth c H locs 185 5982 (lw_Z below #[Value.ref b] s) (F0 m 42 ls [])) (qv : Nat → Int32) (kev : Nat → Int32) (bov : Nat → Int32) (wrv : Nat → Int32) (opv : Nat → Int64) (cs : CS) (y7 : Int32) (y8 : Int32) (y10 : Int32) (y12 : Int32) (z0 : Int32) (z1 : Int32), fL_law_b363 L xs k42 qv kev bov wrv opv cs y7 y8 y10 y12 z0 z1 = some 1 → ∀ (H : Heap) (locs : List Loc), va_P (dC, dI) vwCl (((arrW cyI aq 4 qv) ++ (arrW cyI ak 24 kev) ++ (arrW cyI ab 12 bov) ++ (arrW cyI aw 64 wrv) ++ (larrW cyL ao 2 opv)) ++ mainC cyI cyO cyL ad had cs) H → va_D A (((arrW cyI aq 4 qv) ++ (arrW cyI ak 24 kev) ++ (arrW cyI ab 12 bov) ++ (arrW cyI aw 64 wrv) ++ (larrW cyL ao 2 opv)) ++ mainC cyI cyO cyL ad had cs) → va_S A s.heap H locs → ∀ ls : Array Slot, lv_has ls 21 [(0, .ref b), (1, .ref (ad 0)), (2, .ref aq), (3, .ref ak), (4, .ref ab), (5, .ref aw), (6, .ref ao), (7, .int y7), (8, .int y8), (10, .int y10), (12, .int y12)] → W p l e room_1 s m (#[Value.ref b]) below meth c H locs 185 5982 (lw_Z below #[Value.ref b] s) (F0 m 363 ls [.int z1, .int z0]) := by
    intro k42 hk42 qv kev bov wrv opv cs y7 y8 y10 y12 z0 z1 h H locs hP hD hS ls hl
    unfold fL_law_b363 at h
    refine lv_icmp_eq (tgt := 368) hx hb dL_law_363 (by decide) (fun c12 => ?_) (fun c12 => ?_)
    · have h := (if_pos c12).symm.trans h
      refine lv_iload hx hb dL_law_368 (lv_at hl 10 rfl) ?_
      refine lv_if_ne (tgt := 376) hx hb dL_law_370 (by decide) (fun c13 => ?_) (fun c13 => ?_)
      · have h := (if_neg c13).symm.trans h
        exact kB376 k42 hk42 qv kev bov wrv opv cs y7 y8 y10 h _ _ hP hD hS ls (lv_sub hl [0, 1, 2, 3, 4, 5, 6, 7, 8, 9] rfl)
      · have h := (if_pos c13).symm.trans h
        refine lv_goto (tgt := 1229) hx hb dL_law_373 (by decide) ?_
        exact kB1229 k42 hk42 qv kev bov wrv opv cs y7 h _ _ hP hD hS ls (lv_sub hl [0, 1, 2, 3, 4, 5, 6, 7] rfl)
    · have h := (if_neg c12).symm.trans h
      refine lv_iconst (v := 0) hx hb dL_law_366 (by decide) ?_
      exact absurd (Option.some.inj h) (by decide)
  have kB335 : ∀ (k42 : (Nat → Int32) → (Nat → Int32) → (Nat → Int32) → (Nat → Int32) → (Nat → Int64) → CS → Int32 → Option (Int32)) (hk42 : ∀ (qv : Nat → Int32) (kev : Nat → Int32) (bov : Nat → Int32) (wrv : Nat → Int32) (opv : Nat → Int64) (cs : CS) (y7 : Int32), k42 qv kev bov wrv opv cs y7 = some 1 → ∀ (H : Heap) (locs : List Loc), va_P (dC, dI) vwCl (((arrW cyI aq 4 qv) ++ (arrW cyI ak 24 kev) ++ (arrW cyI ab 12 bov) ++ (arrW cyI aw 64 wrv) ++ (larrW cyL ao 2 opv)) ++ mainC cyI cyO cyL ad had cs) H → va_D A (((arrW cyI aq 4 qv) ++ (arrW cyI ak 24 kev) ++ (arrW cyI ab 12 bov) ++ (arrW cyI aw 64 wrv) ++ (larrW cyL ao 2 opv)) ++ mainC cyI cyO cyL ad had cs) → va_S A s.heap H locs → ∀ ls : Array Slot, lv_has ls 21 [(0, .ref b), (1, .ref (ad 0)), (2, .ref aq), (3, .ref ak), (4, .ref ab), (5, .ref aw), (6, .ref ao), (7, .int y7)] → W p l e room_1 s m (#[Value.ref b]) below meth c H locs 185 5982 (lw_Z below #[Value.ref b] s) (F0 m 42 ls [])) (qv : Nat → Int32) (kev : Nat → Int32) (bov : Nat → Int32) (wrv : Nat → Int32) (opv : Nat → Int64) (cs : CS) (y7 : Int32) (y8 : Int32) (y10 : Int32) (y11 : Int32) (y12 : Int32), fL_law_b335 L xs k42 qv kev bov wrv opv cs y7 y8 y10 y11 y12 = some 1 → ∀ (H : Heap) (locs : List Loc), va_P (dC, dI) vwCl (((arrW cyI aq 4 qv) ++ (arrW cyI ak 24 kev) ++ (arrW cyI ab 12 bov) ++ (arrW cyI aw 64 wrv) ++ (larrW cyL ao 2 opv)) ++ mainC cyI cyO cyL ad had cs) H → va_D A (((arrW cyI aq 4 qv) ++ (arrW cyI ak 24 kev) ++ (arrW cyI ab 12 bov) ++ (arrW cyI aw 64 wrv) ++ (larrW cyL ao 2 opv)) ++ mainC cyI cyO cyL ad had cs) → va_S A s.heap H locs → ∀ ls : Array Slot, lv_has ls 21 [(0, .ref b), (1, .ref (ad 0)), (2, .ref aq), (3, .ref ak), (4, .ref ab), (5, .ref aw), (6, .ref ao), (7, .int y7), (8, .int y8), (10, .int y10), (11, .int y11), (12, .int y12)] → W p l e room_1 s m (#[Value.ref b]) below meth c H locs 185 5982 (lw_Z below #[Value.ref b] s) (F0 m 335 ls []) := by
    intro k42 hk42 qv kev bov wrv opv cs y7 y8 y10 y11 y12 h H locs hP hD hS ls hl
    unfold fL_law_b335 at h
    refine lv_aload_n hx hb dL_law_335 rfl (lv_at hl 1 rfl) ?_
    refine lv_iload hx hb dL_law_336 (lv_at hl 9 rfl) ?_
    obtain ⟨q14, e15, h⟩ := ob h
    refine fr_iG (M := mainC cyI cyO cyL ad had cs) (M' := mainC cyI cyO cyL ad had q14.2) (L' := (((arrW cyI aq 4 qv) ++ (arrW cyI ak 24 kev) ++ (arrW cyI ab 12 bov) ++ (arrW cyI aw 64 wrv) ++ (larrW cyL ao 2 opv)) ++ mainC cyI cyO cyL ad had q14.2)) (F := ((arrW cyI aq 4 qv) ++ (arrW cyI ak 24 kev) ++ (arrW cyI ab 12 bov) ++ (arrW cyI aw 64 wrv) ++ (larrW cyL ao 2 opv))) (va_runV (As := [.int y10]) (rest := []) ⟨hx, hb, hml, hown, hts⟩ (uX7_box l dC dI cyI cyO cyL ad had cs q14.2 y10 q14.1 e15 _) (cwV 1 hts (gVL ml_L_95 im_X7_box se_X7_box in_X7 co_X7_box) rfl rfl rfl (by decide +kernel) ⟨Nat.le_of_ble_eq_true rfl, Nat.le_of_ble_eq_true rfl⟩) (cP_VG hK hP hD List.perm_append_comm 0 rfl rfl) rfl rfl hl.1 rfl (lv_room (Nat.le_of_ble_eq_true rfl)) dL_law_338 ⟨Nat.le_of_ble_eq_true rfl, Nat.le_of_ble_eq_true rfl⟩) hP hD hS hA List.perm_append_comm List.perm_append_comm mainC_ads (fun H locs hP hD hS => ?_)
    refine lv_iload hx hb dL_law_341 (lv_at hl 11 rfl) ?_
    refine lv_if_eq (tgt := 352) hx hb dL_law_343 (by decide) (fun c16 => ?_) (fun c16 => ?_)
    · have h := (if_pos c16).symm.trans h
      refine lv_iload hx hb dL_law_352 (lv_at hl 10 rfl) ?_
      refine lv_if_eq (tgt := 362) hx hb dL_law_354 (by decide) (fun c17 => ?_) (fun c17 => ?_)
      · have h := (if_pos c17).symm.trans h
        refine lv_iconst (v := (-1)) hx hb dL_law_362 (by decide) ?_
        exact kB363 k42 hk42 qv kev bov wrv opv q14.2 y7 y8 y10 y12 q14.1 (-1) h _ _ hP hD hS ls (lv_sub hl [0, 1, 2, 3, 4, 5, 6, 7, 8, 9, 11] rfl)
      · have h := (if_neg c17).symm.trans h
        refine lv_bipush (v := (-5)) hx hb dL_law_357 (by decide) ?_
        refine lv_goto (tgt := 363) hx hb dL_law_359 (by decide) ?_
        exact kB363 k42 hk42 qv kev bov wrv opv q14.2 y7 y8 y10 y12 q14.1 (-5) h _ _ hP hD hS ls (lv_sub hl [0, 1, 2, 3, 4, 5, 6, 7, 8, 9, 11] rfl)
    · have h := (if_neg c16).symm.trans h
      refine lv_aload_n hx hb dL_law_346 rfl (lv_at hl 2 rfl) ?_
      refine lv_iconst (v := 2) hx hb dL_law_347 (by decide) ?_
      obtain ⟨ni18, h⟩ := ifn h
      refine va_iald hx hb hK.1 hP 0 0 rfl rfl ni18 dL_law_348 ?_
      refine lv_goto (tgt := 363) hx hb dL_law_349 (by decide) ?_
      exact kB363 k42 hk42 qv kev bov wrv opv q14.2 y7 y8 y10 y12 q14.1 (qv (2 : Int32).toNatClampNeg) h _ _ hP hD hS ls (lv_sub hl [0, 1, 2, 3, 4, 5, 6, 7, 8, 9, 11] rfl)
  have kB324 : ∀ (k42 : (Nat → Int32) → (Nat → Int32) → (Nat → Int32) → (Nat → Int32) → (Nat → Int64) → CS → Int32 → Option (Int32)) (hk42 : ∀ (qv : Nat → Int32) (kev : Nat → Int32) (bov : Nat → Int32) (wrv : Nat → Int32) (opv : Nat → Int64) (cs : CS) (y7 : Int32), k42 qv kev bov wrv opv cs y7 = some 1 → ∀ (H : Heap) (locs : List Loc), va_P (dC, dI) vwCl (((arrW cyI aq 4 qv) ++ (arrW cyI ak 24 kev) ++ (arrW cyI ab 12 bov) ++ (arrW cyI aw 64 wrv) ++ (larrW cyL ao 2 opv)) ++ mainC cyI cyO cyL ad had cs) H → va_D A (((arrW cyI aq 4 qv) ++ (arrW cyI ak 24 kev) ++ (arrW cyI ab 12 bov) ++ (arrW cyI aw 64 wrv) ++ (larrW cyL ao 2 opv)) ++ mainC cyI cyO cyL ad had cs) → va_S A s.heap H locs → ∀ ls : Array Slot, lv_has ls 21 [(0, .ref b), (1, .ref (ad 0)), (2, .ref aq), (3, .ref ak), (4, .ref ab), (5, .ref aw), (6, .ref ao), (7, .int y7)] → W p l e room_1 s m (#[Value.ref b]) below meth c H locs 185 5982 (lw_Z below #[Value.ref b] s) (F0 m 42 ls [])) (qv : Nat → Int32) (kev : Nat → Int32) (bov : Nat → Int32) (wrv : Nat → Int32) (opv : Nat → Int64) (cs : CS) (y7 : Int32) (y8 : Int32) (y10 : Int32) (y11 : Int32) (y12 : Int32), fL_law_b324 L xs k42 qv kev bov wrv opv cs y7 y8 y10 y11 y12 = some 1 → ∀ (H : Heap) (locs : List Loc), va_P (dC, dI) vwCl (((arrW cyI aq 4 qv) ++ (arrW cyI ak 24 kev) ++ (arrW cyI ab 12 bov) ++ (arrW cyI aw 64 wrv) ++ (larrW cyL ao 2 opv)) ++ mainC cyI cyO cyL ad had cs) H → va_D A (((arrW cyI aq 4 qv) ++ (arrW cyI ak 24 kev) ++ (arrW cyI ab 12 bov) ++ (arrW cyI aw 64 wrv) ++ (larrW cyL ao 2 opv)) ++ mainC cyI cyO cyL ad had cs) → va_S A s.heap H locs → ∀ ls : Array Slot, lv_has ls 21 [(0, .ref b), (1, .ref (ad 0)), (2, .ref aq), (3, .ref ak), (4, .ref ab), (5, .ref aw), (6, .ref ao), (7, .int y7), (8, .int y8), (10, .int y10), (11, .int y11), (12, .int y12)] → W p l e room_1 s m (#[Value.ref b]) below meth c H locs 185 5982 (lw_Z below #[Value.ref b] s) (F0 m 324 ls []) := by
    intro k42 hk42 qv kev bov wrv opv cs y7 y8 y10 y11 y12 h H locs hP hD hS ls hl
    unfold fL_law_b324 at h
    refine lv_aload_n hx hb dL_law_324 rfl (lv_at hl 2 rfl) ?_
    refine lv_iconst (v := 2) hx hb dL_law_325 (by decide) ?_
    obtain ⟨ni19, h⟩ := ifn h
    refine va_iald hx hb hK.1 hP 0 0 rfl rfl ni19 dL_law_326 ?_
    refine lv_bipush (v := 6) hx hb dL_law_327 (by decide) ?_
    refine lv_icmp_ne (tgt := 335) hx hb dL_law_329 (by decide) (fun c20 => ?_) (fun c20 => ?_)
    · have h := (if_neg c20).symm.trans h
      exact kB335 k42 hk42 qv kev bov wrv opv cs y7 y8 y10 y11 y12 h _ _ hP hD hS ls (lv_sub hl [0, 1, 2, 3, 4, 5, 6, 7, 8, 9, 10, 11] rfl)
    · have h := (if_pos c20).symm.trans h
      refine lv_goto (tgt := 1229) hx hb dL_law_332 (by decide) ?_
      exact kB1229 k42 hk42 qv kev bov wrv opv cs y7 h _ _ hP hD hS ls (lv_sub hl [0, 1, 2, 3, 4, 5, 6, 7] rfl)
  have kB1180 : ∀ (k42 : (Nat → Int32) → (Nat → Int32) → (Nat → Int32) → (Nat → Int32) → (Nat → Int64) → CS → Int32 → Option (Int32)) (hk42 : ∀ (qv : Nat → Int32) (kev : Nat → Int32) (bov : Nat → Int32) (wrv : Nat → Int32) (opv : Nat → Int64) (cs : CS) (y7 : Int32), k42 qv kev bov wrv opv cs y7 = some 1 → ∀ (H : Heap) (locs : List Loc), va_P (dC, dI) vwCl (((arrW cyI aq 4 qv) ++ (arrW cyI ak 24 kev) ++ (arrW cyI ab 12 bov) ++ (arrW cyI aw 64 wrv) ++ (larrW cyL ao 2 opv)) ++ mainC cyI cyO cyL ad had cs) H → va_D A (((arrW cyI aq 4 qv) ++ (arrW cyI ak 24 kev) ++ (arrW cyI ab 12 bov) ++ (arrW cyI aw 64 wrv) ++ (larrW cyL ao 2 opv)) ++ mainC cyI cyO cyL ad had cs) → va_S A s.heap H locs → ∀ ls : Array Slot, lv_has ls 21 [(0, .ref b), (1, .ref (ad 0)), (2, .ref aq), (3, .ref ak), (4, .ref ab), (5, .ref aw), (6, .ref ao), (7, .int y7)] → W p l e room_1 s m (#[Value.ref b]) below meth c H locs 185 5982 (lw_Z below #[Value.ref b] s) (F0 m 42 ls [])) (qv : Nat → Int32) (kev : Nat → Int32) (bov : Nat → Int32) (wrv : Nat → Int32) (opv : Nat → Int64) (cs : CS) (y7 : Int32) (y8 : Int32) (y15 : Int32) (y17 : Int32), fL_law_b1180 L xs k42 qv kev bov wrv opv cs y7 y8 y15 y17 = some 1 → ∀ (H : Heap) (locs : List Loc), va_P (dC, dI) vwCl (((arrW cyI aq 4 qv) ++ (arrW cyI ak 24 kev) ++ (arrW cyI ab 12 bov) ++ (arrW cyI aw 64 wrv) ++ (larrW cyL ao 2 opv)) ++ mainC cyI cyO cyL ad had cs) H → va_D A (((arrW cyI aq 4 qv) ++ (arrW cyI ak 24 kev) ++ (arrW cyI ab 12 bov) ++ (arrW cyI aw 64 wrv) ++ (larrW cyL ao 2 opv)) ++ mainC cyI cyO cyL ad had cs) → va_S A s.heap H locs → ∀ ls : Array Slot, lv_has ls 21 [(0, .ref b), (1, .ref (ad 0)), (2, .ref aq), (3, .ref ak), (4, .ref ab), (5, .ref aw), (6, .ref ao), (7, .int y7), (8, .int y8), (15, .int y15), (17, .int y17)] → W p l e room_1 s m (#[Value.ref b]) below meth c H locs 185 5982 (lw_Z below #[Value.ref b] s) (F0 m 1180 ls []) := by
    intro k42 hk42 qv kev bov wrv opv cs y7 y8 y15 y17 h H locs hP hD hS ls hl
    unfold fL_law_b1180 at h
    refine lv_iconst (v := (-1)) hx hb dL_law_1180 (by decide) ?_
    refine lv_aload_n hx hb dL_law_1181 rfl (lv_at hl 2 rfl) ?_
    refine lv_aload_n hx hb dL_law_1182 rfl (lv_at hl 3 rfl) ?_
    refine lv_aload hx hb dL_law_1183 (lv_at hl 4 rfl) ?_
    refine lv_aload hx hb dL_law_1185 (lv_at hl 5 rfl) ?_
    obtain ⟨q21, e22, h⟩ := ob h
    refine fr_vK (L1 := ((arrW cyI aq 4 qv) ++ (arrW cyI ak 24 kev) ++ (arrW cyI ab 12 bov) ++ (arrW cyI aw 64 wrv) ++ (larrW cyL ao 2 opv))) (M := ((arrW cyI aq 4 qv) ++ (arrW cyI ak 24 kev) ++ (arrW cyI ab 12 bov) ++ (arrW cyI aw 64 wrv))) (M' := ((arrW cyI aq 4 qv) ++ (arrW cyI ak 24 kev) ++ (arrW cyI ab 12 bov) ++ (arrW cyI aw 64 q21))) (L2 := ((arrW cyI aq 4 qv) ++ (arrW cyI ak 24 kev) ++ (arrW cyI ab 12 bov) ++ (arrW cyI aw 64 q21) ++ (larrW cyL ao 2 opv))) (va_runS (As := [.int (-1), .ref aq, .ref ak, .ref ab, .ref aw]) (rest := []) ⟨hx, hb, hml, hown, hts⟩ (mL_burn l dC dI cyI cyO cyL aq ak ab aw qv kev bov wrv (-1) _ q21 e22) (va_cwS 5 hts (gSL ml_L_32 st_L_burn in_L co_L_burn) rfl rfl rfl (by decide +kernel) ⟨Nat.le_of_ble_eq_true rfl, Nat.le_of_ble_eq_true rfl⟩) (cP_S hK hP hD [0, 1, 2, 3] rfl rfl) rfl rfl hl.1 rfl (lv_room (Nat.le_of_ble_eq_true rfl)) dL_law_1187 ⟨Nat.le_of_ble_eq_true rfl, Nat.le_of_ble_eq_true rfl⟩) hP hD hS hA [0, 1, 2, 3] rfl [(true, 0), (true, 1), (true, 2), (true, 3), (false, 4)] rfl rfl rfl (fun H locs hP hD hS => ?_)
    refine lv_iload hx hb dL_law_1190 (lv_at hl 9 rfl) ?_
    refine lv_aload_n hx hb dL_law_1192 rfl (lv_at hl 2 rfl) ?_
    refine lv_aload_n hx hb dL_law_1193 rfl (lv_at hl 3 rfl) ?_
    refine lv_aload hx hb dL_law_1194 (lv_at hl 4 rfl) ?_
    refine lv_aload hx hb dL_law_1196 (lv_at hl 5 rfl) ?_
    obtain ⟨q23, e24, h⟩ := ob h
    refine fr_iK (L1 := ((arrW cyI aq 4 qv) ++ (arrW cyI ak 24 kev) ++ (arrW cyI ab 12 bov) ++ (arrW cyI aw 64 q21) ++ (larrW cyL ao 2 opv))) (M := ((arrW cyI aq 4 qv) ++ (arrW cyI ak 24 kev) ++ (arrW cyI ab 12 bov) ++ (arrW cyI aw 64 q21))) (M' := ((arrW cyI aq 4 q23.2.1) ++ (arrW cyI ak 24 q23.2.2.1) ++ (arrW cyI ab 12 bov) ++ (arrW cyI aw 64 q23.2.2.2))) (L2 := ((arrW cyI aq 4 q23.2.1) ++ (arrW cyI ak 24 q23.2.2.1) ++ (arrW cyI ab 12 bov) ++ (arrW cyI aw 64 q23.2.2.2) ++ (larrW cyL ao 2 opv))) (va_runS (As := [.int y15, .ref aq, .ref ak, .ref ab, .ref aw]) (rest := []) ⟨hx, hb, hml, hown, hts⟩ (mL_anew l dC dI cyI cyO cyL aq ak ab aw qv kev bov q21 y15 _ q23 e24) (va_cwS 5 hts (gSL ml_L_120 st_L_anew in_L co_L_anew) rfl rfl rfl (by decide +kernel) ⟨Nat.le_of_ble_eq_true rfl, Nat.le_of_ble_eq_true rfl⟩) (cP_S hK hP hD [0, 1, 2, 3] rfl rfl) rfl rfl hl.1 rfl (lv_room (Nat.le_of_ble_eq_true rfl)) dL_law_1198 ⟨Nat.le_of_ble_eq_true rfl, Nat.le_of_ble_eq_true rfl⟩) hP hD hS hA [0, 1, 2, 3] rfl [(true, 0), (true, 1), (true, 2), (true, 3), (false, 4)] rfl rfl rfl (fun H locs hP hD hS => ?_)
    refine lv_iload hx hb dL_law_1201 (lv_at hl 10 rfl) ?_
    refine lv_icmp_eq (tgt := 1208) hx hb dL_law_1203 (by decide) (fun c25 => ?_) (fun c25 => ?_)
    · have h := (if_pos c25).symm.trans h
      exact kB1208 k42 hk42 q23.2.1 q23.2.2.1 bov q23.2.2.2 opv cs y7 y8 h _ _ hP hD hS ls (lv_sub hl [0, 1, 2, 3, 4, 5, 6, 7, 8] rfl)
    · have h := (if_neg c25).symm.trans h
      refine lv_iconst (v := 0) hx hb dL_law_1206 (by decide) ?_
      exact absurd (Option.some.inj h) (by decide)
  have kB1141 : ∀ (k42 : (Nat → Int32) → (Nat → Int32) → (Nat → Int32) → (Nat → Int32) → (Nat → Int64) → CS → Int32 → Option (Int32)) (hk42 : ∀ (qv : Nat → Int32) (kev : Nat → Int32) (bov : Nat → Int32) (wrv : Nat → Int32) (opv : Nat → Int64) (cs : CS) (y7 : Int32), k42 qv kev bov wrv opv cs y7 = some 1 → ∀ (H : Heap) (locs : List Loc), va_P (dC, dI) vwCl (((arrW cyI aq 4 qv) ++ (arrW cyI ak 24 kev) ++ (arrW cyI ab 12 bov) ++ (arrW cyI aw 64 wrv) ++ (larrW cyL ao 2 opv)) ++ mainC cyI cyO cyL ad had cs) H → va_D A (((arrW cyI aq 4 qv) ++ (arrW cyI ak 24 kev) ++ (arrW cyI ab 12 bov) ++ (arrW cyI aw 64 wrv) ++ (larrW cyL ao 2 opv)) ++ mainC cyI cyO cyL ad had cs) → va_S A s.heap H locs → ∀ ls : Array Slot, lv_has ls 21 [(0, .ref b), (1, .ref (ad 0)), (2, .ref aq), (3, .ref ak), (4, .ref ab), (5, .ref aw), (6, .ref ao), (7, .int y7)] → W p l e room_1 s m (#[Value.ref b]) below meth c H locs 185 5982 (lw_Z below #[Value.ref b] s) (F0 m 42 ls [])) (fuel : Nat) (qv : Nat → Int32) (kev : Nat → Int32) (bov : Nat → Int32) (wrv : Nat → Int32) (opv : Nat → Int64) (cs : CS) (y7 : Int32) (y8 : Int32) (y10 : Int32) (y13 : Int32) (y15 : Int32) (y17 : Int32) (y20 : Int32), fL_law_b1141 L xs k42 fuel qv kev bov wrv opv cs y7 y8 y10 y13 y15 y17 y20 = some 1 → ∀ (H : Heap) (locs : List Loc), va_P (dC, dI) vwCl (((arrW cyI aq 4 qv) ++ (arrW cyI ak 24 kev) ++ (arrW cyI ab 12 bov) ++ (arrW cyI aw 64 wrv) ++ (larrW cyL ao 2 opv)) ++ mainC cyI cyO cyL ad had cs) H → va_D A (((arrW cyI aq 4 qv) ++ (arrW cyI ak 24 kev) ++ (arrW cyI ab 12 bov) ++ (arrW cyI aw 64 wrv) ++ (larrW cyL ao 2 opv)) ++ mainC cyI cyO cyL ad had cs) → va_S A s.heap H locs → ∀ ls : Array Slot, lv_has ls 21 [(0, .ref b), (1, .ref (ad 0)), (2, .ref aq), (3, .ref ak), (4, .ref ab), (5, .ref aw), (6, .ref ao), (7, .int y7), (8, .int y8), (10, .int y10), (13, .int y13), (15, .int y15), (17, .int y17), (20, .int y20)] → W p l e room_1 s m (#[Value.ref b]) below meth c H locs 185 5982 (lw_Z below #[Value.ref b] s) (F0 m 1141 ls []) := by
    intro k42 hk42 fuel
    induction fuel with
    | zero => intro qv kev bov wrv opv cs y7 y8 y10 y13 y15 y17 y20 h; rw [fL_law_b1141] at h; cases h
    | succ fuel ih =>
      intro qv kev bov wrv opv cs y7 y8 y10 y13 y15 y17 y20 h H locs hP hD hS ls hl
      rw [fL_law_b1141] at h
      refine lv_iload hx hb dL_law_1141 (lv_at hl 13 rfl) ?_
      refine lv_aload_n hx hb dL_law_1143 rfl (lv_at hl 2 rfl) ?_
      refine lv_iconst (v := 1) hx hb dL_law_1144 (by decide) ?_
      obtain ⟨ni26, h⟩ := ifn h
      refine va_iald hx hb hK.1 hP 0 0 rfl rfl ni26 dL_law_1145 ?_
      refine lv_icmp_ge (tgt := 1180) hx hb dL_law_1146 (by decide) (fun c27 => ?_) (fun c27 => ?_)
      · have h := (if_pos c27).symm.trans h
        exact kB1180 k42 hk42 qv kev bov wrv opv cs y7 y8 y15 y17 h _ _ hP hD hS ls (lv_sub hl [0, 1, 2, 3, 4, 5, 6, 7, 8, 11, 12] rfl)
      · have h := (if_neg c27).symm.trans h
        refine lv_iload hx hb dL_law_1149 (lv_at hl 10 rfl) ?_
        refine lv_if_eq (tgt := 1180) hx hb dL_law_1151 (by decide) (fun c28 => ?_) (fun c28 => ?_)
        · have h := (if_pos c28).symm.trans h
          exact kB1180 k42 hk42 qv kev bov wrv opv cs y7 y8 y15 y17 h _ _ hP hD hS ls (lv_sub hl [0, 1, 2, 3, 4, 5, 6, 7, 8, 11, 12] rfl)
        · have h := (if_neg c28).symm.trans h
          refine lv_iload hx hb dL_law_1154 (lv_at hl 13 rfl) ?_
          refine lv_iload hx hb dL_law_1156 (lv_at hl 9 rfl) ?_
          refine lv_aload_n hx hb dL_law_1158 rfl (lv_at hl 3 rfl) ?_
          obtain ⟨q29, e30, h⟩ := ob h
          refine fr_ir (M := (arrW cyI ak 24 kev)) (va_runS (As := [.int y20, .int y10, .ref ak]) (rest := []) ⟨hx, hb, hml, hown, hts⟩ (mL_under l dC dI cyI cyO cyL ak kev y20 y10 _ q29 e30) (va_cwS 3 hts (gSL ml_L_53 st_L_under in_L co_L_under) rfl rfl rfl (by decide +kernel) ⟨Nat.le_of_ble_eq_true rfl, Nat.le_of_ble_eq_true rfl⟩) (cP_S hK hP hD [1] rfl rfl) rfl rfl hl.1 rfl (lv_room (Nat.le_of_ble_eq_true rfl)) dL_law_1159 ⟨Nat.le_of_ble_eq_true rfl, Nat.le_of_ble_eq_true rfl⟩) hP hD hS hA [1] rfl (fun H locs hP hS => ?_)
          refine lv_if_eq (tgt := 1174) hx hb dL_law_1162 (by decide) (fun c31 => ?_) (fun c31 => ?_)
          · have h := (if_pos c31).symm.trans h
            refine lv_iinc (v := (y20 + 1)) (lv' := [(20, .int (y20 + 1)), (0, .ref b), (1, .ref (ad 0)), (2, .ref aq), (3, .ref ak), (4, .ref ab), (5, .ref aw), (6, .ref ao), (7, .int y7), (8, .int y8), (10, .int y10), (13, .int y13), (15, .int y15), (17, .int y17)]) hx hb dL_law_1174 hl (k := 13) rfl rfl (by decide) rfl (fun ls hl => ?_)
            refine lv_goto (tgt := 1141) hx hb dL_law_1177 (by decide) ?_
            exact ih qv kev bov wrv opv cs y7 y8 y10 y13 y15 y17 (y20 + 1) h _ _ hP hD hS ls (lv_sub hl [1, 2, 3, 4, 5, 6, 7, 8, 9, 10, 11, 12, 13, 0] rfl)
          · have h := (if_neg c31).symm.trans h
            refine lv_aload_n hx hb dL_law_1165 rfl (lv_at hl 3 rfl) ?_
            refine lv_iconst (v := 4) hx hb dL_law_1166 (by decide) ?_
            refine lv_iload hx hb dL_law_1167 (lv_at hl 13 rfl) ?_
            refine lv_imul hx hb dL_law_1169 ?_
            refine lv_iconst (v := 1) hx hb dL_law_1170 (by decide) ?_
            refine lv_iadd hx hb dL_law_1171 ?_
            refine lv_iconst (v := 0) hx hb dL_law_1172 (by decide) ?_
            obtain ⟨ni32, h⟩ := ifn h
            refine va_iast hx hb hK.1 hP hD hS 1 0 rfl rfl ni32 dL_law_1173 (fun H locs hP hD hS => ?_)
            have hP : va_P (dC, dI) vwCl (((arrW cyI aq 4 qv) ++ (arrW cyI ak 24 (upd kev ((4 * y20) + 1).toNatClampNeg 0)) ++ (arrW cyI ab 12 bov) ++ (arrW cyI aw 64 wrv) ++ (larrW cyL ao 2 opv)) ++ mainC cyI cyO cyL ad had cs) H := hP
            have hD : va_D A (((arrW cyI aq 4 qv) ++ (arrW cyI ak 24 (upd kev ((4 * y20) + 1).toNatClampNeg 0)) ++ (arrW cyI ab 12 bov) ++ (arrW cyI aw 64 wrv) ++ (larrW cyL ao 2 opv)) ++ mainC cyI cyO cyL ad had cs) := hD
            refine lv_iinc (v := (y20 + 1)) (lv' := [(20, .int (y20 + 1)), (0, .ref b), (1, .ref (ad 0)), (2, .ref aq), (3, .ref ak), (4, .ref ab), (5, .ref aw), (6, .ref ao), (7, .int y7), (8, .int y8), (10, .int y10), (13, .int y13), (15, .int y15), (17, .int y17)]) hx hb dL_law_1174 hl (k := 13) rfl rfl (by decide) rfl (fun ls hl => ?_)
            refine lv_goto (tgt := 1141) hx hb dL_law_1177 (by decide) ?_
            exact ih qv (upd kev ((4 * y20) + 1).toNatClampNeg 0) bov wrv opv cs y7 y8 y10 y13 y15 y17 (y20 + 1) h _ _ hP hD hS ls (lv_sub hl [1, 2, 3, 4, 5, 6, 7, 8, 9, 10, 11, 12, 13, 0] rfl)
  have kB1138 : ∀ (k42 : (Nat → Int32) → (Nat → Int32) → (Nat → Int32) → (Nat → Int32) → (Nat → Int64) → CS → Int32 → Option (Int32)) (hk42 : ∀ (qv : Nat → Int32) (kev : Nat → Int32) (bov : Nat → Int32) (wrv : Nat → Int32) (opv : Nat → Int64) (cs : CS) (y7 : Int32), k42 qv kev bov wrv opv cs y7 = some 1 → ∀ (H : Heap) (locs : List Loc), va_P (dC, dI) vwCl (((arrW cyI aq 4 qv) ++ (arrW cyI ak 24 kev) ++ (arrW cyI ab 12 bov) ++ (arrW cyI aw 64 wrv) ++ (larrW cyL ao 2 opv)) ++ mainC cyI cyO cyL ad had cs) H → va_D A (((arrW cyI aq 4 qv) ++ (arrW cyI ak 24 kev) ++ (arrW cyI ab 12 bov) ++ (arrW cyI aw 64 wrv) ++ (larrW cyL ao 2 opv)) ++ mainC cyI cyO cyL ad had cs) → va_S A s.heap H locs → ∀ ls : Array Slot, lv_has ls 21 [(0, .ref b), (1, .ref (ad 0)), (2, .ref aq), (3, .ref ak), (4, .ref ab), (5, .ref aw), (6, .ref ao), (7, .int y7)] → W p l e room_1 s m (#[Value.ref b]) below meth c H locs 185 5982 (lw_Z below #[Value.ref b] s) (F0 m 42 ls [])) (qv : Nat → Int32) (kev : Nat → Int32) (bov : Nat → Int32) (wrv : Nat → Int32) (opv : Nat → Int64) (cs : CS) (y7 : Int32) (y8 : Int32) (y10 : Int32) (y13 : Int32) (y15 : Int32) (y17 : Int32), fL_law_b1138 L xs k42 qv kev bov wrv opv cs y7 y8 y10 y13 y15 y17 = some 1 → ∀ (H : Heap) (locs : List Loc), va_P (dC, dI) vwCl (((arrW cyI aq 4 qv) ++ (arrW cyI ak 24 kev) ++ (arrW cyI ab 12 bov) ++ (arrW cyI aw 64 wrv) ++ (larrW cyL ao 2 opv)) ++ mainC cyI cyO cyL ad had cs) H → va_D A (((arrW cyI aq 4 qv) ++ (arrW cyI ak 24 kev) ++ (arrW cyI ab 12 bov) ++ (arrW cyI aw 64 wrv) ++ (larrW cyL ao 2 opv)) ++ mainC cyI cyO cyL ad had cs) → va_S A s.heap H locs → ∀ ls : Array Slot, lv_has ls 21 [(0, .ref b), (1, .ref (ad 0)), (2, .ref aq), (3, .ref ak), (4, .ref ab), (5, .ref aw), (6, .ref ao), (7, .int y7), (8, .int y8), (10, .int y10), (13, .int y13), (15, .int y15), (17, .int y17)] → W p l e room_1 s m (#[Value.ref b]) below meth c H locs 185 5982 (lw_Z below #[Value.ref b] s) (F0 m 1138 ls []) := by
    intro k42 hk42 qv kev bov wrv opv cs y7 y8 y10 y13 y15 y17 h H locs hP hD hS ls hl
    unfold fL_law_b1138 at h
    refine lv_iconst (v := 0) hx hb dL_law_1138 (by decide) ?_
    refine lv_istore (lv' := [(20, .int 0), (0, .ref b), (1, .ref (ad 0)), (2, .ref aq), (3, .ref ak), (4, .ref ab), (5, .ref aw), (6, .ref ao), (7, .int y7), (8, .int y8), (10, .int y10), (13, .int y13), (15, .int y15), (17, .int y17)]) hx hb dL_law_1139 hl (by decide) rfl (fun ls hl => ?_)
    exact kB1141 k42 hk42 6000 qv kev bov wrv opv cs y7 y8 y10 y13 y15 y17 0 h _ _ hP hD hS ls (lv_sub hl [1, 2, 3, 4, 5, 6, 7, 8, 9, 10, 11, 12, 13, 0] rfl)
  have kB1083 : ∀ (k42 : (Nat → Int32) → (Nat → Int32) → (Nat → Int32) → (Nat → Int32) → (Nat → Int64) → CS → Int32 → Option (Int32)) (hk42 : ∀ (qv : Nat → Int32) (kev : Nat → Int32) (bov : Nat → Int32) (wrv : Nat → Int32) (opv : Nat → Int64) (cs : CS) (y7 : Int32), k42 qv kev bov wrv opv cs y7 = some 1 → ∀ (H : Heap) (locs : List Loc), va_P (dC, dI) vwCl (((arrW cyI aq 4 qv) ++ (arrW cyI ak 24 kev) ++ (arrW cyI ab 12 bov) ++ (arrW cyI aw 64 wrv) ++ (larrW cyL ao 2 opv)) ++ mainC cyI cyO cyL ad had cs) H → va_D A (((arrW cyI aq 4 qv) ++ (arrW cyI ak 24 kev) ++ (arrW cyI ab 12 bov) ++ (arrW cyI aw 64 wrv) ++ (larrW cyL ao 2 opv)) ++ mainC cyI cyO cyL ad had cs) → va_S A s.heap H locs → ∀ ls : Array Slot, lv_has ls 21 [(0, .ref b), (1, .ref (ad 0)), (2, .ref aq), (3, .ref ak), (4, .ref ab), (5, .ref aw), (6, .ref ao), (7, .int y7)] → W p l e room_1 s m (#[Value.ref b]) below meth c H locs 185 5982 (lw_Z below #[Value.ref b] s) (F0 m 42 ls [])) (fuel : Nat) (qv : Nat → Int32) (kev : Nat → Int32) (bov : Nat → Int32) (wrv : Nat → Int32) (opv : Nat → Int64) (cs : CS) (y7 : Int32) (y8 : Int32) (y10 : Int32) (y13 : Int32) (y14 : Int32) (y15 : Int32) (y17 : Int32) (y20 : Int32), fL_law_b1083 L xs k42 fuel qv kev bov wrv opv cs y7 y8 y10 y13 y14 y15 y17 y20 = some 1 → ∀ (H : Heap) (locs : List Loc), va_P (dC, dI) vwCl (((arrW cyI aq 4 qv) ++ (arrW cyI ak 24 kev) ++ (arrW cyI ab 12 bov) ++ (arrW cyI aw 64 wrv) ++ (larrW cyL ao 2 opv)) ++ mainC cyI cyO cyL ad had cs) H → va_D A (((arrW cyI aq 4 qv) ++ (arrW cyI ak 24 kev) ++ (arrW cyI ab 12 bov) ++ (arrW cyI aw 64 wrv) ++ (larrW cyL ao 2 opv)) ++ mainC cyI cyO cyL ad had cs) → va_S A s.heap H locs → ∀ ls : Array Slot, lv_has ls 21 [(0, .ref b), (1, .ref (ad 0)), (2, .ref aq), (3, .ref ak), (4, .ref ab), (5, .ref aw), (6, .ref ao), (7, .int y7), (8, .int y8), (10, .int y10), (13, .int y13), (14, .int y14), (15, .int y15), (17, .int y17), (20, .int y20)] → W p l e room_1 s m (#[Value.ref b]) below meth c H locs 185 5982 (lw_Z below #[Value.ref b] s) (F0 m 1083 ls []) := by
    intro k42 hk42 fuel
    induction fuel with
    | zero => intro qv kev bov wrv opv cs y7 y8 y10 y13 y14 y15 y17 y20 h; rw [fL_law_b1083] at h; cases h
    | succ fuel ih =>
      intro qv kev bov wrv opv cs y7 y8 y10 y13 y14 y15 y17 y20 h H locs hP hD hS ls hl
      rw [fL_law_b1083] at h
      refine lv_iload hx hb dL_law_1083 (lv_at hl 14 rfl) ?_
      refine lv_aload_n hx hb dL_law_1085 rfl (lv_at hl 2 rfl) ?_
      refine lv_iconst (v := 2) hx hb dL_law_1086 (by decide) ?_
      obtain ⟨ni33, h⟩ := ifn h
      refine va_iald hx hb hK.1 hP 0 0 rfl rfl ni33 dL_law_1087 ?_
      refine lv_icmp_ge (tgt := 1138) hx hb dL_law_1088 (by decide) (fun c34 => ?_) (fun c34 => ?_)
      · have h := (if_pos c34).symm.trans h
        exact kB1138 k42 hk42 qv kev bov wrv opv cs y7 y8 y10 y13 y15 y17 h _ _ hP hD hS ls (lv_sub hl [0, 1, 2, 3, 4, 5, 6, 7, 8, 9, 10, 12, 13] rfl)
      · have h := (if_neg c34).symm.trans h
        refine lv_iload hx hb dL_law_1091 (lv_at hl 10 rfl) ?_
        refine lv_if_eq (tgt := 1115) hx hb dL_law_1093 (by decide) (fun c35 => ?_) (fun c35 => ?_)
        · have h := (if_pos c35).symm.trans h
          refine lv_iload hx hb dL_law_1115 (lv_at hl 14 rfl) ?_
          refine lv_iload hx hb dL_law_1117 (lv_at hl 11 rfl) ?_
          refine lv_icmp_ne (tgt := 1132) hx hb dL_law_1119 (by decide) (fun c36 => ?_) (fun c36 => ?_)
          · have h := (if_neg c36).symm.trans h
            refine lv_iinc (v := (y20 + 1)) (lv' := [(20, .int (y20 + 1)), (0, .ref b), (1, .ref (ad 0)), (2, .ref aq), (3, .ref ak), (4, .ref ab), (5, .ref aw), (6, .ref ao), (7, .int y7), (8, .int y8), (10, .int y10), (13, .int y13), (14, .int y14), (15, .int y15), (17, .int y17)]) hx hb dL_law_1132 hl (k := 14) rfl rfl (by decide) rfl (fun ls hl => ?_)
            refine lv_goto (tgt := 1083) hx hb dL_law_1135 (by decide) ?_
            exact ih qv kev bov wrv opv cs y7 y8 y10 y13 y14 y15 y17 (y20 + 1) h _ _ hP hD hS ls (lv_sub hl [1, 2, 3, 4, 5, 6, 7, 8, 9, 10, 11, 12, 13, 14, 0] rfl)
          · have h := (if_pos c36).symm.trans h
            refine lv_aload hx hb dL_law_1122 (lv_at hl 4 rfl) ?_
            refine lv_iconst (v := 2) hx hb dL_law_1124 (by decide) ?_
            refine lv_iload hx hb dL_law_1125 (lv_at hl 14 rfl) ?_
            refine lv_imul hx hb dL_law_1127 ?_
            refine lv_iconst (v := 1) hx hb dL_law_1128 (by decide) ?_
            refine lv_iadd hx hb dL_law_1129 ?_
            refine lv_iconst (v := 0) hx hb dL_law_1130 (by decide) ?_
            obtain ⟨ni37, h⟩ := ifn h
            refine va_iast hx hb hK.1 hP hD hS 2 0 rfl rfl ni37 dL_law_1131 (fun H locs hP hD hS => ?_)
            have hP : va_P (dC, dI) vwCl (((arrW cyI aq 4 qv) ++ (arrW cyI ak 24 kev) ++ (arrW cyI ab 12 (upd bov ((2 * y20) + 1).toNatClampNeg 0)) ++ (arrW cyI aw 64 wrv) ++ (larrW cyL ao 2 opv)) ++ mainC cyI cyO cyL ad had cs) H := hP
            have hD : va_D A (((arrW cyI aq 4 qv) ++ (arrW cyI ak 24 kev) ++ (arrW cyI ab 12 (upd bov ((2 * y20) + 1).toNatClampNeg 0)) ++ (arrW cyI aw 64 wrv) ++ (larrW cyL ao 2 opv)) ++ mainC cyI cyO cyL ad had cs) := hD
            refine lv_iinc (v := (y20 + 1)) (lv' := [(20, .int (y20 + 1)), (0, .ref b), (1, .ref (ad 0)), (2, .ref aq), (3, .ref ak), (4, .ref ab), (5, .ref aw), (6, .ref ao), (7, .int y7), (8, .int y8), (10, .int y10), (13, .int y13), (14, .int y14), (15, .int y15), (17, .int y17)]) hx hb dL_law_1132 hl (k := 14) rfl rfl (by decide) rfl (fun ls hl => ?_)
            refine lv_goto (tgt := 1083) hx hb dL_law_1135 (by decide) ?_
            exact ih qv kev (upd bov ((2 * y20) + 1).toNatClampNeg 0) wrv opv cs y7 y8 y10 y13 y14 y15 y17 (y20 + 1) h _ _ hP hD hS ls (lv_sub hl [1, 2, 3, 4, 5, 6, 7, 8, 9, 10, 11, 12, 13, 14, 0] rfl)
        · have h := (if_neg c35).symm.trans h
          refine lv_aload hx hb dL_law_1096 (lv_at hl 4 rfl) ?_
          refine lv_iconst (v := 2) hx hb dL_law_1098 (by decide) ?_
          refine lv_iload hx hb dL_law_1099 (lv_at hl 14 rfl) ?_
          refine lv_imul hx hb dL_law_1101 ?_
          obtain ⟨ni38, h⟩ := ifn h
          refine va_iald hx hb hK.1 hP 2 0 rfl rfl ni38 dL_law_1102 ?_
          refine lv_iload hx hb dL_law_1103 (lv_at hl 9 rfl) ?_
          refine lv_aload_n hx hb dL_law_1105 rfl (lv_at hl 3 rfl) ?_
          obtain ⟨q39, e40, h⟩ := ob h
          refine fr_ir (M := (arrW cyI ak 24 kev)) (va_runS (As := [.int (bov (2 * y20).toNatClampNeg), .int y10, .ref ak]) (rest := []) ⟨hx, hb, hml, hown, hts⟩ (mL_under l dC dI cyI cyO cyL ak kev (bov (2 * y20).toNatClampNeg) y10 _ q39 e40) (va_cwS 3 hts (gSL ml_L_53 st_L_under in_L co_L_under) rfl rfl rfl (by decide +kernel) ⟨Nat.le_of_ble_eq_true rfl, Nat.le_of_ble_eq_true rfl⟩) (cP_S hK hP hD [1] rfl rfl) rfl rfl hl.1 rfl (lv_room (Nat.le_of_ble_eq_true rfl)) dL_law_1106 ⟨Nat.le_of_ble_eq_true rfl, Nat.le_of_ble_eq_true rfl⟩) hP hD hS hA [1] rfl (fun H locs hP hS => ?_)
          refine lv_if_eq (tgt := 1132) hx hb dL_law_1109 (by decide) (fun c41 => ?_) (fun c41 => ?_)
          · have h := (if_pos c41).symm.trans h
            refine lv_iinc (v := (y20 + 1)) (lv' := [(20, .int (y20 + 1)), (0, .ref b), (1, .ref (ad 0)), (2, .ref aq), (3, .ref ak), (4, .ref ab), (5, .ref aw), (6, .ref ao), (7, .int y7), (8, .int y8), (10, .int y10), (13, .int y13), (14, .int y14), (15, .int y15), (17, .int y17)]) hx hb dL_law_1132 hl (k := 14) rfl rfl (by decide) rfl (fun ls hl => ?_)
            refine lv_goto (tgt := 1083) hx hb dL_law_1135 (by decide) ?_
            exact ih qv kev bov wrv opv cs y7 y8 y10 y13 y14 y15 y17 (y20 + 1) h _ _ hP hD hS ls (lv_sub hl [1, 2, 3, 4, 5, 6, 7, 8, 9, 10, 11, 12, 13, 14, 0] rfl)
          · have h := (if_neg c41).symm.trans h
            refine lv_goto (tgt := 1122) hx hb dL_law_1112 (by decide) ?_
            refine lv_aload hx hb dL_law_1122 (lv_at hl 4 rfl) ?_
            refine lv_iconst (v := 2) hx hb dL_law_1124 (by decide) ?_
            refine lv_iload hx hb dL_law_1125 (lv_at hl 14 rfl) ?_
            refine lv_imul hx hb dL_law_1127 ?_
            refine lv_iconst (v := 1) hx hb dL_law_1128 (by decide) ?_
            refine lv_iadd hx hb dL_law_1129 ?_
            refine lv_iconst (v := 0) hx hb dL_law_1130 (by decide) ?_
            obtain ⟨ni42, h⟩ := ifn h
            refine va_iast hx hb hK.1 hP hD hS 2 0 rfl rfl ni42 dL_law_1131 (fun H locs hP hD hS => ?_)
            have hP : va_P (dC, dI) vwCl (((arrW cyI aq 4 qv) ++ (arrW cyI ak 24 kev) ++ (arrW cyI ab 12 (upd bov ((2 * y20) + 1).toNatClampNeg 0)) ++ (arrW cyI aw 64 wrv) ++ (larrW cyL ao 2 opv)) ++ mainC cyI cyO cyL ad had cs) H := hP
            have hD : va_D A (((arrW cyI aq 4 qv) ++ (arrW cyI ak 24 kev) ++ (arrW cyI ab 12 (upd bov ((2 * y20) + 1).toNatClampNeg 0)) ++ (arrW cyI aw 64 wrv) ++ (larrW cyL ao 2 opv)) ++ mainC cyI cyO cyL ad had cs) := hD
            refine lv_iinc (v := (y20 + 1)) (lv' := [(20, .int (y20 + 1)), (0, .ref b), (1, .ref (ad 0)), (2, .ref aq), (3, .ref ak), (4, .ref ab), (5, .ref aw), (6, .ref ao), (7, .int y7), (8, .int y8), (10, .int y10), (13, .int y13), (14, .int y14), (15, .int y15), (17, .int y17)]) hx hb dL_law_1132 hl (k := 14) rfl rfl (by decide) rfl (fun ls hl => ?_)
            refine lv_goto (tgt := 1083) hx hb dL_law_1135 (by decide) ?_
            exact ih qv kev (upd bov ((2 * y20) + 1).toNatClampNeg 0) wrv opv cs y7 y8 y10 y13 y14 y15 y17 (y20 + 1) h _ _ hP hD hS ls (lv_sub hl [1, 2, 3, 4, 5, 6, 7, 8, 9, 10, 11, 12, 13, 14, 0] rfl)
  have kB1075 : ∀ (k42 : (Nat → Int32) → (Nat → Int32) → (Nat → Int32) → (Nat → Int32) → (Nat → Int64) → CS → Int32 → Option (Int32)) (hk42 : ∀ (qv : Nat → Int32) (kev : Nat → Int32) (bov : Nat → Int32) (wrv : Nat → Int32) (opv : Nat → Int64) (cs : CS) (y7 : Int32), k42 qv kev bov wrv opv cs y7 = some 1 → ∀ (H : Heap) (locs : List Loc), va_P (dC, dI) vwCl (((arrW cyI aq 4 qv) ++ (arrW cyI ak 24 kev) ++ (arrW cyI ab 12 bov) ++ (arrW cyI aw 64 wrv) ++ (larrW cyL ao 2 opv)) ++ mainC cyI cyO cyL ad had cs) H → va_D A (((arrW cyI aq 4 qv) ++ (arrW cyI ak 24 kev) ++ (arrW cyI ab 12 bov) ++ (arrW cyI aw 64 wrv) ++ (larrW cyL ao 2 opv)) ++ mainC cyI cyO cyL ad had cs) → va_S A s.heap H locs → ∀ ls : Array Slot, lv_has ls 21 [(0, .ref b), (1, .ref (ad 0)), (2, .ref aq), (3, .ref ak), (4, .ref ab), (5, .ref aw), (6, .ref ao), (7, .int y7)] → W p l e room_1 s m (#[Value.ref b]) below meth c H locs 185 5982 (lw_Z below #[Value.ref b] s) (F0 m 42 ls [])) (qv : Nat → Int32) (kev : Nat → Int32) (bov : Nat → Int32) (wrv : Nat → Int32) (opv : Nat → Int64) (cs : CS) (y7 : Int32) (y8 : Int32) (y10 : Int32) (y13 : Int32) (y14 : Int32) (y15 : Int32) (y16 : Int32) (y17 : Int32), fL_law_b1075 L xs k42 qv kev bov wrv opv cs y7 y8 y10 y13 y14 y15 y16 y17 = some 1 → ∀ (H : Heap) (locs : List Loc), va_P (dC, dI) vwCl (((arrW cyI aq 4 qv) ++ (arrW cyI ak 24 kev) ++ (arrW cyI ab 12 bov) ++ (arrW cyI aw 64 wrv) ++ (larrW cyL ao 2 opv)) ++ mainC cyI cyO cyL ad had cs) H → va_D A (((arrW cyI aq 4 qv) ++ (arrW cyI ak 24 kev) ++ (arrW cyI ab 12 bov) ++ (arrW cyI aw 64 wrv) ++ (larrW cyL ao 2 opv)) ++ mainC cyI cyO cyL ad had cs) → va_S A s.heap H locs → ∀ ls : Array Slot, lv_has ls 21 [(0, .ref b), (1, .ref (ad 0)), (2, .ref aq), (3, .ref ak), (4, .ref ab), (5, .ref aw), (6, .ref ao), (7, .int y7), (8, .int y8), (10, .int y10), (13, .int y13), (14, .int y14), (15, .int y15), (16, .int y16), (17, .int y17)] → W p l e room_1 s m (#[Value.ref b]) below meth c H locs 185 5982 (lw_Z below #[Value.ref b] s) (F0 m 1075 ls []) := by
    intro k42 hk42 qv kev bov wrv opv cs y7 y8 y10 y13 y14 y15 y16 y17 h H locs hP hD hS ls hl
    unfold fL_law_b1075 at h
    refine lv_iload hx hb dL_law_1075 (lv_at hl 13 rfl) ?_
    refine lv_if_eq (tgt := 1208) hx hb dL_law_1077 (by decide) (fun c43 => ?_) (fun c43 => ?_)
    · have h := (if_pos c43).symm.trans h
      exact kB1208 k42 hk42 qv kev bov wrv opv cs y7 y8 h _ _ hP hD hS ls (lv_sub hl [0, 1, 2, 3, 4, 5, 6, 7, 8] rfl)
    · have h := (if_neg c43).symm.trans h
      refine lv_iconst (v := 0) hx hb dL_law_1080 (by decide) ?_
      refine lv_istore (lv' := [(20, .int 0), (0, .ref b), (1, .ref (ad 0)), (2, .ref aq), (3, .ref ak), (4, .ref ab), (5, .ref aw), (6, .ref ao), (7, .int y7), (8, .int y8), (10, .int y10), (13, .int y13), (14, .int y14), (15, .int y15), (16, .int y16), (17, .int y17)]) hx hb dL_law_1081 hl (by decide) rfl (fun ls hl => ?_)
      exact kB1083 k42 hk42 6000 qv kev bov wrv opv cs y7 y8 y10 y13 y14 y15 y17 0 h _ _ hP hD hS ls (lv_sub hl [1, 2, 3, 4, 5, 6, 7, 8, 9, 10, 11, 12, 13, 15, 0] rfl)
  have kB1049 : ∀ (k42 : (Nat → Int32) → (Nat → Int32) → (Nat → Int32) → (Nat → Int32) → (Nat → Int64) → CS → Int32 → Option (Int32)) (hk42 : ∀ (qv : Nat → Int32) (kev : Nat → Int32) (bov : Nat → Int32) (wrv : Nat → Int32) (opv : Nat → Int64) (cs : CS) (y7 : Int32), k42 qv kev bov wrv opv cs y7 = some 1 → ∀ (H : Heap) (locs : List Loc), va_P (dC, dI) vwCl (((arrW cyI aq 4 qv) ++ (arrW cyI ak 24 kev) ++ (arrW cyI ab 12 bov) ++ (arrW cyI aw 64 wrv) ++ (larrW cyL ao 2 opv)) ++ mainC cyI cyO cyL ad had cs) H → va_D A (((arrW cyI aq 4 qv) ++ (arrW cyI ak 24 kev) ++ (arrW cyI ab 12 bov) ++ (arrW cyI aw 64 wrv) ++ (larrW cyL ao 2 opv)) ++ mainC cyI cyO cyL ad had cs) → va_S A s.heap H locs → ∀ ls : Array Slot, lv_has ls 21 [(0, .ref b), (1, .ref (ad 0)), (2, .ref aq), (3, .ref ak), (4, .ref ab), (5, .ref aw), (6, .ref ao), (7, .int y7)] → W p l e room_1 s m (#[Value.ref b]) below meth c H locs 185 5982 (lw_Z below #[Value.ref b] s) (F0 m 42 ls [])) (qv : Nat → Int32) (kev : Nat → Int32) (bov : Nat → Int32) (wrv : Nat → Int32) (opv : Nat → Int64) (cs : CS) (y7 : Int32) (y8 : Int32) (y10 : Int32) (y13 : Int32) (y14 : Int32) (y15 : Int32) (y16 : Int32) (y17 : Int32) (y18 : Int32) (y19 : Int32), fL_law_b1049 L xs k42 qv kev bov wrv opv cs y7 y8 y10 y13 y14 y15 y16 y17 y18 y19 = some 1 → ∀ (H : Heap) (locs : List Loc), va_P (dC, dI) vwCl (((arrW cyI aq 4 qv) ++ (arrW cyI ak 24 kev) ++ (arrW cyI ab 12 bov) ++ (arrW cyI aw 64 wrv) ++ (larrW cyL ao 2 opv)) ++ mainC cyI cyO cyL ad had cs) H → va_D A (((arrW cyI aq 4 qv) ++ (arrW cyI ak 24 kev) ++ (arrW cyI ab 12 bov) ++ (arrW cyI aw 64 wrv) ++ (larrW cyL ao 2 opv)) ++ mainC cyI cyO cyL ad had cs) → va_S A s.heap H locs → ∀ ls : Array Slot, lv_has ls 21 [(0, .ref b), (1, .ref (ad 0)), (2, .ref aq), (3, .ref ak), (4, .ref ab), (5, .ref aw), (6, .ref ao), (7, .int y7), (8, .int y8), (10, .int y10), (13, .int y13), (14, .int y14), (15, .int y15), (16, .int y16), (17, .int y17), (18, .int y18), (19, .int y19)] → W p l e room_1 s m (#[Value.ref b]) below meth c H locs 185 5982 (lw_Z below #[Value.ref b] s) (F0 m 1049 ls []) := by
    intro k42 hk42 qv kev bov wrv opv cs y7 y8 y10 y13 y14 y15 y16 y17 y18 y19 h H locs hP hD hS ls hl
    unfold fL_law_b1049 at h
    refine lv_iload hx hb dL_law_1049 (lv_at hl 15 rfl) ?_
    refine lv_iload hx hb dL_law_1051 (lv_at hl 16 rfl) ?_
    refine lv_icmp_ne (tgt := 1073) hx hb dL_law_1053 (by decide) (fun c44 => ?_) (fun c44 => ?_)
    · have h := (if_neg c44).symm.trans h
      refine lv_iconst (v := 0) hx hb dL_law_1073 (by decide) ?_
      exact absurd (Option.some.inj h) (by decide)
    · have h := (if_pos c44).symm.trans h
      refine lv_iload hx hb dL_law_1056 (lv_at hl 16 rfl) ?_
      refine lv_iload hx hb dL_law_1058 (lv_at hl 13 rfl) ?_
      refine lv_if_eq (tgt := 1068) hx hb dL_law_1060 (by decide) (fun c45 => ?_) (fun c45 => ?_)
      · have h := (if_pos c45).symm.trans h
        refine lv_bipush (v := (-5)) hx hb dL_law_1068 (by decide) ?_
        refine lv_icmp_eq (tgt := 1075) hx hb dL_law_1070 (by decide) (fun c46 => ?_) (fun c46 => ?_)
        · have h := (if_pos c46).symm.trans h
          exact kB1075 k42 hk42 qv kev bov wrv opv cs y7 y8 y10 y13 y14 y15 y16 y17 h _ _ hP hD hS ls (lv_sub hl [0, 1, 2, 3, 4, 5, 6, 7, 8, 9, 10, 11, 12, 13, 14] rfl)
        · have h := (if_neg c46).symm.trans h
          refine lv_iconst (v := 0) hx hb dL_law_1073 (by decide) ?_
          exact absurd (Option.some.inj h) (by decide)
      · have h := (if_neg c45).symm.trans h
        refine lv_iload hx hb dL_law_1063 (lv_at hl 14 rfl) ?_
        refine lv_goto (tgt := 1070) hx hb dL_law_1065 (by decide) ?_
        refine lv_icmp_eq (tgt := 1075) hx hb dL_law_1070 (by decide) (fun c47 => ?_) (fun c47 => ?_)
        · have h := (if_pos c47).symm.trans h
          exact kB1075 k42 hk42 qv kev bov wrv opv cs y7 y8 y10 y13 y14 y15 y16 y17 h _ _ hP hD hS ls (lv_sub hl [0, 1, 2, 3, 4, 5, 6, 7, 8, 9, 10, 11, 12, 13, 14] rfl)
        · have h := (if_neg c47).symm.trans h
          refine lv_iconst (v := 0) hx hb dL_law_1073 (by decide) ?_
          exact absurd (Option.some.inj h) (by decide)
  have kB1047 : ∀ (k42 : (Nat → Int32) → (Nat → Int32) → (Nat → Int32) → (Nat → Int32) → (Nat → Int64) → CS → Int32 → Option (Int32)) (hk42 : ∀ (qv : Nat → Int32) (kev : Nat → Int32) (bov : Nat → Int32) (wrv : Nat → Int32) (opv : Nat → Int64) (cs : CS) (y7 : Int32), k42 qv kev bov wrv opv cs y7 = some 1 → ∀ (H : Heap) (locs : List Loc), va_P (dC, dI) vwCl (((arrW cyI aq 4 qv) ++ (arrW cyI ak 24 kev) ++ (arrW cyI ab 12 bov) ++ (arrW cyI aw 64 wrv) ++ (larrW cyL ao 2 opv)) ++ mainC cyI cyO cyL ad had cs) H → va_D A (((arrW cyI aq 4 qv) ++ (arrW cyI ak 24 kev) ++ (arrW cyI ab 12 bov) ++ (arrW cyI aw 64 wrv) ++ (larrW cyL ao 2 opv)) ++ mainC cyI cyO cyL ad had cs) → va_S A s.heap H locs → ∀ ls : Array Slot, lv_has ls 21 [(0, .ref b), (1, .ref (ad 0)), (2, .ref aq), (3, .ref ak), (4, .ref ab), (5, .ref aw), (6, .ref ao), (7, .int y7)] → W p l e room_1 s m (#[Value.ref b]) below meth c H locs 185 5982 (lw_Z below #[Value.ref b] s) (F0 m 42 ls [])) (qv : Nat → Int32) (kev : Nat → Int32) (bov : Nat → Int32) (wrv : Nat → Int32) (opv : Nat → Int64) (cs : CS) (y7 : Int32) (y8 : Int32) (y10 : Int32) (y13 : Int32) (y14 : Int32) (y15 : Int32) (y16 : Int32) (y17 : Int32) (y18 : Int32) (z0 : Int32), fL_law_b1047 L xs k42 qv kev bov wrv opv cs y7 y8 y10 y13 y14 y15 y16 y17 y18 z0 = some 1 → ∀ (H : Heap) (locs : List Loc), va_P (dC, dI) vwCl (((arrW cyI aq 4 qv) ++ (arrW cyI ak 24 kev) ++ (arrW cyI ab 12 bov) ++ (arrW cyI aw 64 wrv) ++ (larrW cyL ao 2 opv)) ++ mainC cyI cyO cyL ad had cs) H → va_D A (((arrW cyI aq 4 qv) ++ (arrW cyI ak 24 kev) ++ (arrW cyI ab 12 bov) ++ (arrW cyI aw 64 wrv) ++ (larrW cyL ao 2 opv)) ++ mainC cyI cyO cyL ad had cs) → va_S A s.heap H locs → ∀ ls : Array Slot, lv_has ls 21 [(0, .ref b), (1, .ref (ad 0)), (2, .ref aq), (3, .ref ak), (4, .ref ab), (5, .ref aw), (6, .ref ao), (7, .int y7), (8, .int y8), (10, .int y10), (13, .int y13), (14, .int y14), (15, .int y15), (16, .int y16), (17, .int y17), (18, .int y18)] → W p l e room_1 s m (#[Value.ref b]) below meth c H locs 185 5982 (lw_Z below #[Value.ref b] s) (F0 m 1047 ls [.int z0]) := by
    intro k42 hk42 qv kev bov wrv opv cs y7 y8 y10 y13 y14 y15 y16 y17 y18 z0 h H locs hP hD hS ls hl
    unfold fL_law_b1047 at h
    refine lv_istore (lv' := [(19, .int z0), (0, .ref b), (1, .ref (ad 0)), (2, .ref aq), (3, .ref ak), (4, .ref ab), (5, .ref aw), (6, .ref ao), (7, .int y7), (8, .int y8), (10, .int y10), (13, .int y13), (14, .int y14), (15, .int y15), (16, .int y16), (17, .int y17), (18, .int y18)]) hx hb dL_law_1047 hl (by decide) rfl (fun ls hl => ?_)
    exact kB1049 k42 hk42 qv kev bov wrv opv cs y7 y8 y10 y13 y14 y15 y16 y17 y18 z0 h _ _ hP hD hS ls (lv_sub hl [1, 2, 3, 4, 5, 6, 7, 8, 9, 10, 11, 12, 13, 14, 15, 16, 0] rfl)
  have kB1027 : ∀ (k42 : (Nat → Int32) → (Nat → Int32) → (Nat → Int32) → (Nat → Int32) → (Nat → Int64) → CS → Int32 → Option (Int32)) (hk42 : ∀ (qv : Nat → Int32) (kev : Nat → Int32) (bov : Nat → Int32) (wrv : Nat → Int32) (opv : Nat → Int64) (cs : CS) (y7 : Int32), k42 qv kev bov wrv opv cs y7 = some 1 → ∀ (H : Heap) (locs : List Loc), va_P (dC, dI) vwCl (((arrW cyI aq 4 qv) ++ (arrW cyI ak 24 kev) ++ (arrW cyI ab 12 bov) ++ (arrW cyI aw 64 wrv) ++ (larrW cyL ao 2 opv)) ++ mainC cyI cyO cyL ad had cs) H → va_D A (((arrW cyI aq 4 qv) ++ (arrW cyI ak 24 kev) ++ (arrW cyI ab 12 bov) ++ (arrW cyI aw 64 wrv) ++ (larrW cyL ao 2 opv)) ++ mainC cyI cyO cyL ad had cs) → va_S A s.heap H locs → ∀ ls : Array Slot, lv_has ls 21 [(0, .ref b), (1, .ref (ad 0)), (2, .ref aq), (3, .ref ak), (4, .ref ab), (5, .ref aw), (6, .ref ao), (7, .int y7)] → W p l e room_1 s m (#[Value.ref b]) below meth c H locs 185 5982 (lw_Z below #[Value.ref b] s) (F0 m 42 ls [])) (qv : Nat → Int32) (kev : Nat → Int32) (bov : Nat → Int32) (wrv : Nat → Int32) (opv : Nat → Int64) (cs : CS) (y7 : Int32) (y8 : Int32) (y10 : Int32) (y13 : Int32) (y14 : Int32) (y15 : Int32) (y16 : Int32) (y17 : Int32) (y18 : Int32), fL_law_b1027 L xs k42 qv kev bov wrv opv cs y7 y8 y10 y13 y14 y15 y16 y17 y18 = some 1 → ∀ (H : Heap) (locs : List Loc), va_P (dC, dI) vwCl (((arrW cyI aq 4 qv) ++ (arrW cyI ak 24 kev) ++ (arrW cyI ab 12 bov) ++ (arrW cyI aw 64 wrv) ++ (larrW cyL ao 2 opv)) ++ mainC cyI cyO cyL ad had cs) H → va_D A (((arrW cyI aq 4 qv) ++ (arrW cyI ak 24 kev) ++ (arrW cyI ab 12 bov) ++ (arrW cyI aw 64 wrv) ++ (larrW cyL ao 2 opv)) ++ mainC cyI cyO cyL ad had cs) → va_S A s.heap H locs → ∀ ls : Array Slot, lv_has ls 21 [(0, .ref b), (1, .ref (ad 0)), (2, .ref aq), (3, .ref ak), (4, .ref ab), (5, .ref aw), (6, .ref ao), (7, .int y7), (8, .int y8), (10, .int y10), (13, .int y13), (14, .int y14), (15, .int y15), (16, .int y16), (17, .int y17), (18, .int y18)] → W p l e room_1 s m (#[Value.ref b]) below meth c H locs 185 5982 (lw_Z below #[Value.ref b] s) (F0 m 1027 ls []) := by
    intro k42 hk42 qv kev bov wrv opv cs y7 y8 y10 y13 y14 y15 y16 y17 y18 h H locs hP hD hS ls hl
    unfold fL_law_b1027 at h
    refine lv_iload hx hb dL_law_1027 (lv_at hl 10 rfl) ?_
    refine lv_if_eq (tgt := 1041) hx hb dL_law_1029 (by decide) (fun c48 => ?_) (fun c48 => ?_)
    · have h := (if_pos c48).symm.trans h
      refine lv_aload_n hx hb dL_law_1041 rfl (lv_at hl 1 rfl) ?_
      refine lv_iload hx hb dL_law_1042 (lv_at hl 11 rfl) ?_
      obtain ⟨q49, e50, h⟩ := ob h
      refine fr_iG (M := mainC cyI cyO cyL ad had cs) (M' := mainC cyI cyO cyL ad had q49.2) (L' := (((arrW cyI aq 4 qv) ++ (arrW cyI ak 24 kev) ++ (arrW cyI ab 12 bov) ++ (arrW cyI aw 64 wrv) ++ (larrW cyL ao 2 opv)) ++ mainC cyI cyO cyL ad had q49.2)) (F := ((arrW cyI aq 4 qv) ++ (arrW cyI ak 24 kev) ++ (arrW cyI ab 12 bov) ++ (arrW cyI aw 64 wrv) ++ (larrW cyL ao 2 opv))) (va_runV (As := [.int y14]) (rest := []) ⟨hx, hb, hml, hown, hts⟩ (uX7_throwBox l dC dI cyI cyO cyL ad had cs q49.2 y14 q49.1 e50 _) (cwV 1 hts (gVL ml_L_117 im_X7_throwBox se_X7_throwBox in_X7 co_X7_throwBox) rfl rfl rfl (by decide +kernel) ⟨Nat.le_of_ble_eq_true rfl, Nat.le_of_ble_eq_true rfl⟩) (cP_VG hK hP hD List.perm_append_comm 0 rfl rfl) rfl rfl hl.1 rfl (lv_room (Nat.le_of_ble_eq_true rfl)) dL_law_1044 ⟨Nat.le_of_ble_eq_true rfl, Nat.le_of_ble_eq_true rfl⟩) hP hD hS hA List.perm_append_comm List.perm_append_comm mainC_ads (fun H locs hP hD hS => ?_)
      exact kB1047 k42 hk42 qv kev bov wrv opv q49.2 y7 y8 y10 y13 y14 y15 y16 y17 y18 q49.1 h _ _ hP hD hS ls (lv_sub hl [0, 1, 2, 3, 4, 5, 6, 7, 8, 9, 10, 11, 12, 13, 14, 15] rfl)
    · have h := (if_neg c48).symm.trans h
      refine lv_aload_n hx hb dL_law_1032 rfl (lv_at hl 1 rfl) ?_
      refine lv_iload hx hb dL_law_1033 (lv_at hl 9 rfl) ?_
      obtain ⟨q51, e52, h⟩ := ob h
      refine fr_iG (M := mainC cyI cyO cyL ad had cs) (M' := mainC cyI cyO cyL ad had q51.2) (L' := (((arrW cyI aq 4 qv) ++ (arrW cyI ak 24 kev) ++ (arrW cyI ab 12 bov) ++ (arrW cyI aw 64 wrv) ++ (larrW cyL ao 2 opv)) ++ mainC cyI cyO cyL ad had q51.2)) (F := ((arrW cyI aq 4 qv) ++ (arrW cyI ak 24 kev) ++ (arrW cyI ab 12 bov) ++ (arrW cyI aw 64 wrv) ++ (larrW cyL ao 2 opv))) (va_runV (As := [.int y10]) (rest := []) ⟨hx, hb, hml, hown, hts⟩ (uX7_throwKey l dC dI cyI cyO cyL ad had cs q51.2 y10 q51.1 e52 _) (cwV 1 hts (gVL ml_L_114 im_X7_throwKey se_X7_throwKey in_X7 co_X7_throwKey) rfl rfl rfl (by decide +kernel) ⟨Nat.le_of_ble_eq_true rfl, Nat.le_of_ble_eq_true rfl⟩) (cP_VG hK hP hD List.perm_append_comm 0 rfl rfl) rfl rfl hl.1 rfl (lv_room (Nat.le_of_ble_eq_true rfl)) dL_law_1035 ⟨Nat.le_of_ble_eq_true rfl, Nat.le_of_ble_eq_true rfl⟩) hP hD hS hA List.perm_append_comm List.perm_append_comm mainC_ads (fun H locs hP hD hS => ?_)
      refine lv_goto (tgt := 1047) hx hb dL_law_1038 (by decide) ?_
      exact kB1047 k42 hk42 qv kev bov wrv opv q51.2 y7 y8 y10 y13 y14 y15 y16 y17 y18 q51.1 h _ _ hP hD hS ls (lv_sub hl [0, 1, 2, 3, 4, 5, 6, 7, 8, 9, 10, 11, 12, 13, 14, 15] rfl)
  have kB1010 : ∀ (k42 : (Nat → Int32) → (Nat → Int32) → (Nat → Int32) → (Nat → Int32) → (Nat → Int64) → CS → Int32 → Option (Int32)) (hk42 : ∀ (qv : Nat → Int32) (kev : Nat → Int32) (bov : Nat → Int32) (wrv : Nat → Int32) (opv : Nat → Int64) (cs : CS) (y7 : Int32), k42 qv kev bov wrv opv cs y7 = some 1 → ∀ (H : Heap) (locs : List Loc), va_P (dC, dI) vwCl (((arrW cyI aq 4 qv) ++ (arrW cyI ak 24 kev) ++ (arrW cyI ab 12 bov) ++ (arrW cyI aw 64 wrv) ++ (larrW cyL ao 2 opv)) ++ mainC cyI cyO cyL ad had cs) H → va_D A (((arrW cyI aq 4 qv) ++ (arrW cyI ak 24 kev) ++ (arrW cyI ab 12 bov) ++ (arrW cyI aw 64 wrv) ++ (larrW cyL ao 2 opv)) ++ mainC cyI cyO cyL ad had cs) → va_S A s.heap H locs → ∀ ls : Array Slot, lv_has ls 21 [(0, .ref b), (1, .ref (ad 0)), (2, .ref aq), (3, .ref ak), (4, .ref ab), (5, .ref aw), (6, .ref ao), (7, .int y7)] → W p l e room_1 s m (#[Value.ref b]) below meth c H locs 185 5982 (lw_Z below #[Value.ref b] s) (F0 m 42 ls [])) (qv : Nat → Int32) (kev : Nat → Int32) (bov : Nat → Int32) (wrv : Nat → Int32) (opv : Nat → Int64) (cs : CS) (y7 : Int32) (y8 : Int32) (y10 : Int32) (y13 : Int32) (y14 : Int32) (y15 : Int32) (y16 : Int32) (y17 : Int32) (z1 : Int32), fL_law_b1010 L xs k42 qv kev bov wrv opv cs y7 y8 y10 y13 y14 y15 y16 y17 z1 = some 1 → ∀ (H : Heap) (locs : List Loc), va_P (dC, dI) vwCl (((arrW cyI aq 4 qv) ++ (arrW cyI ak 24 kev) ++ (arrW cyI ab 12 bov) ++ (arrW cyI aw 64 wrv) ++ (larrW cyL ao 2 opv)) ++ mainC cyI cyO cyL ad had cs) H → va_D A (((arrW cyI aq 4 qv) ++ (arrW cyI ak 24 kev) ++ (arrW cyI ab 12 bov) ++ (arrW cyI aw 64 wrv) ++ (larrW cyL ao 2 opv)) ++ mainC cyI cyO cyL ad had cs) → va_S A s.heap H locs → ∀ ls : Array Slot, lv_has ls 21 [(0, .ref b), (1, .ref (ad 0)), (2, .ref aq), (3, .ref ak), (4, .ref ab), (5, .ref aw), (6, .ref ao), (7, .int y7), (8, .int y8), (10, .int y10), (13, .int y13), (14, .int y14), (15, .int y15), (16, .int y16), (17, .int y17)] → W p l e room_1 s m (#[Value.ref b]) below meth c H locs 185 5982 (lw_Z below #[Value.ref b] s) (F0 m 1010 ls [.int z1, .ref (ad 0)]) := by
    intro k42 hk42 qv kev bov wrv opv cs y7 y8 y10 y13 y14 y15 y16 y17 z1 h H locs hP hD hS ls hl
    unfold fL_law_b1010 at h
    refine lv_iload hx hb dL_law_1010 (lv_at hl 10 rfl) ?_
    refine lv_if_eq (tgt := 1020) hx hb dL_law_1012 (by decide) (fun c53 => ?_) (fun c53 => ?_)
    · have h := (if_pos c53).symm.trans h
      refine lv_iload hx hb dL_law_1020 (lv_at hl 11 rfl) ?_
      obtain ⟨q54, e55, h⟩ := ob h
      refine fr_iG (M := mainC cyI cyO cyL ad had cs) (M' := mainC cyI cyO cyL ad had q54.2) (L' := (((arrW cyI aq 4 qv) ++ (arrW cyI ak 24 kev) ++ (arrW cyI ab 12 bov) ++ (arrW cyI aw 64 wrv) ++ (larrW cyL ao 2 opv)) ++ mainC cyI cyO cyL ad had q54.2)) (F := ((arrW cyI aq 4 qv) ++ (arrW cyI ak 24 kev) ++ (arrW cyI ab 12 bov) ++ (arrW cyI aw 64 wrv) ++ (larrW cyL ao 2 opv))) (va_runV (As := [.int z1, .int y14]) (rest := []) ⟨hx, hb, hml, hown, hts⟩ (uX7_throwingMakes l dC dI cyI cyO cyL ad had cs q54.2 z1 y14 q54.1 e55 _) (cwV 2 hts (gVL ml_L_111 im_X7_throwingMakes se_X7_throwingMakes in_X7 co_X7_throwingMakes) rfl rfl rfl (by decide +kernel) ⟨Nat.le_of_ble_eq_true rfl, Nat.le_of_ble_eq_true rfl⟩) (cP_VG hK hP hD List.perm_append_comm 0 rfl rfl) rfl rfl hl.1 rfl (lv_room (Nat.le_of_ble_eq_true rfl)) dL_law_1022 ⟨Nat.le_of_ble_eq_true rfl, Nat.le_of_ble_eq_true rfl⟩) hP hD hS hA List.perm_append_comm List.perm_append_comm mainC_ads (fun H locs hP hD hS => ?_)
      refine lv_istore (lv' := [(18, .int q54.1), (0, .ref b), (1, .ref (ad 0)), (2, .ref aq), (3, .ref ak), (4, .ref ab), (5, .ref aw), (6, .ref ao), (7, .int y7), (8, .int y8), (10, .int y10), (13, .int y13), (14, .int y14), (15, .int y15), (16, .int y16), (17, .int y17)]) hx hb dL_law_1025 hl (by decide) rfl (fun ls hl => ?_)
      exact kB1027 k42 hk42 qv kev bov wrv opv q54.2 y7 y8 y10 y13 y14 y15 y16 y17 q54.1 h _ _ hP hD hS ls (lv_sub hl [1, 2, 3, 4, 5, 6, 7, 8, 9, 10, 11, 12, 13, 14, 15, 0] rfl)
    · have h := (if_neg c53).symm.trans h
      refine lv_iload hx hb dL_law_1015 (lv_at hl 9 rfl) ?_
      refine lv_goto (tgt := 1022) hx hb dL_law_1017 (by decide) ?_
      obtain ⟨q56, e57, h⟩ := ob h
      refine fr_iG (M := mainC cyI cyO cyL ad had cs) (M' := mainC cyI cyO cyL ad had q56.2) (L' := (((arrW cyI aq 4 qv) ++ (arrW cyI ak 24 kev) ++ (arrW cyI ab 12 bov) ++ (arrW cyI aw 64 wrv) ++ (larrW cyL ao 2 opv)) ++ mainC cyI cyO cyL ad had q56.2)) (F := ((arrW cyI aq 4 qv) ++ (arrW cyI ak 24 kev) ++ (arrW cyI ab 12 bov) ++ (arrW cyI aw 64 wrv) ++ (larrW cyL ao 2 opv))) (va_runV (As := [.int z1, .int y10]) (rest := []) ⟨hx, hb, hml, hown, hts⟩ (uX7_throwingMakes l dC dI cyI cyO cyL ad had cs q56.2 z1 y10 q56.1 e57 _) (cwV 2 hts (gVL ml_L_111 im_X7_throwingMakes se_X7_throwingMakes in_X7 co_X7_throwingMakes) rfl rfl rfl (by decide +kernel) ⟨Nat.le_of_ble_eq_true rfl, Nat.le_of_ble_eq_true rfl⟩) (cP_VG hK hP hD List.perm_append_comm 0 rfl rfl) rfl rfl hl.1 rfl (lv_room (Nat.le_of_ble_eq_true rfl)) dL_law_1022 ⟨Nat.le_of_ble_eq_true rfl, Nat.le_of_ble_eq_true rfl⟩) hP hD hS hA List.perm_append_comm List.perm_append_comm mainC_ads (fun H locs hP hD hS => ?_)
      refine lv_istore (lv' := [(18, .int q56.1), (0, .ref b), (1, .ref (ad 0)), (2, .ref aq), (3, .ref ak), (4, .ref ab), (5, .ref aw), (6, .ref ao), (7, .int y7), (8, .int y8), (10, .int y10), (13, .int y13), (14, .int y14), (15, .int y15), (16, .int y16), (17, .int y17)]) hx hb dL_law_1025 hl (by decide) rfl (fun ls hl => ?_)
      exact kB1027 k42 hk42 qv kev bov wrv opv q56.2 y7 y8 y10 y13 y14 y15 y16 y17 q56.1 h _ _ hP hD hS ls (lv_sub hl [1, 2, 3, 4, 5, 6, 7, 8, 9, 10, 11, 12, 13, 14, 15, 0] rfl)
  have kB999 : ∀ (k42 : (Nat → Int32) → (Nat → Int32) → (Nat → Int32) → (Nat → Int32) → (Nat → Int64) → CS → Int32 → Option (Int32)) (hk42 : ∀ (qv : Nat → Int32) (kev : Nat → Int32) (bov : Nat → Int32) (wrv : Nat → Int32) (opv : Nat → Int64) (cs : CS) (y7 : Int32), k42 qv kev bov wrv opv cs y7 = some 1 → ∀ (H : Heap) (locs : List Loc), va_P (dC, dI) vwCl (((arrW cyI aq 4 qv) ++ (arrW cyI ak 24 kev) ++ (arrW cyI ab 12 bov) ++ (arrW cyI aw 64 wrv) ++ (larrW cyL ao 2 opv)) ++ mainC cyI cyO cyL ad had cs) H → va_D A (((arrW cyI aq 4 qv) ++ (arrW cyI ak 24 kev) ++ (arrW cyI ab 12 bov) ++ (arrW cyI aw 64 wrv) ++ (larrW cyL ao 2 opv)) ++ mainC cyI cyO cyL ad had cs) → va_S A s.heap H locs → ∀ ls : Array Slot, lv_has ls 21 [(0, .ref b), (1, .ref (ad 0)), (2, .ref aq), (3, .ref ak), (4, .ref ab), (5, .ref aw), (6, .ref ao), (7, .int y7)] → W p l e room_1 s m (#[Value.ref b]) below meth c H locs 185 5982 (lw_Z below #[Value.ref b] s) (F0 m 42 ls [])) (qv : Nat → Int32) (kev : Nat → Int32) (bov : Nat → Int32) (wrv : Nat → Int32) (opv : Nat → Int64) (cs : CS) (y7 : Int32) (y8 : Int32) (y10 : Int32) (y13 : Int32) (y14 : Int32) (y15 : Int32) (y16 : Int32) (y17 : Int32), fL_law_b999 L xs k42 qv kev bov wrv opv cs y7 y8 y10 y13 y14 y15 y16 y17 = some 1 → ∀ (H : Heap) (locs : List Loc), va_P (dC, dI) vwCl (((arrW cyI aq 4 qv) ++ (arrW cyI ak 24 kev) ++ (arrW cyI ab 12 bov) ++ (arrW cyI aw 64 wrv) ++ (larrW cyL ao 2 opv)) ++ mainC cyI cyO cyL ad had cs) H → va_D A (((arrW cyI aq 4 qv) ++ (arrW cyI ak 24 kev) ++ (arrW cyI ab 12 bov) ++ (arrW cyI aw 64 wrv) ++ (larrW cyL ao 2 opv)) ++ mainC cyI cyO cyL ad had cs) → va_S A s.heap H locs → ∀ ls : Array Slot, lv_has ls 21 [(0, .ref b), (1, .ref (ad 0)), (2, .ref aq), (3, .ref ak), (4, .ref ab), (5, .ref aw), (6, .ref ao), (7, .int y7), (8, .int y8), (10, .int y10), (13, .int y13), (14, .int y14), (15, .int y15), (16, .int y16), (17, .int y17)] → W p l e room_1 s m (#[Value.ref b]) below meth c H locs 185 5982 (lw_Z below #[Value.ref b] s) (F0 m 999 ls []) := by
    intro k42 hk42 qv kev bov wrv opv cs y7 y8 y10 y13 y14 y15 y16 y17 h H locs hP hD hS ls hl
    unfold fL_law_b999 at h
    refine lv_aload_n hx hb dL_law_999 rfl (lv_at hl 1 rfl) ?_
    refine lv_iload hx hb dL_law_1000 (lv_at hl 10 rfl) ?_
    refine lv_if_eq (tgt := 1009) hx hb dL_law_1002 (by decide) (fun c58 => ?_) (fun c58 => ?_)
    · have h := (if_pos c58).symm.trans h
      refine lv_iconst (v := 1) hx hb dL_law_1009 (by decide) ?_
      exact kB1010 k42 hk42 qv kev bov wrv opv cs y7 y8 y10 y13 y14 y15 y16 y17 1 h _ _ hP hD hS ls (lv_sub hl [0, 1, 2, 3, 4, 5, 6, 7, 8, 9, 10, 11, 12, 13, 14] rfl)
    · have h := (if_neg c58).symm.trans h
      refine lv_iconst (v := 0) hx hb dL_law_1005 (by decide) ?_
      refine lv_goto (tgt := 1010) hx hb dL_law_1006 (by decide) ?_
      exact kB1010 k42 hk42 qv kev bov wrv opv cs y7 y8 y10 y13 y14 y15 y16 y17 0 h _ _ hP hD hS ls (lv_sub hl [0, 1, 2, 3, 4, 5, 6, 7, 8, 9, 10, 11, 12, 13, 14] rfl)
  have kB958 : ∀ (k42 : (Nat → Int32) → (Nat → Int32) → (Nat → Int32) → (Nat → Int32) → (Nat → Int64) → CS → Int32 → Option (Int32)) (hk42 : ∀ (qv : Nat → Int32) (kev : Nat → Int32) (bov : Nat → Int32) (wrv : Nat → Int32) (opv : Nat → Int64) (cs : CS) (y7 : Int32), k42 qv kev bov wrv opv cs y7 = some 1 → ∀ (H : Heap) (locs : List Loc), va_P (dC, dI) vwCl (((arrW cyI aq 4 qv) ++ (arrW cyI ak 24 kev) ++ (arrW cyI ab 12 bov) ++ (arrW cyI aw 64 wrv) ++ (larrW cyL ao 2 opv)) ++ mainC cyI cyO cyL ad had cs) H → va_D A (((arrW cyI aq 4 qv) ++ (arrW cyI ak 24 kev) ++ (arrW cyI ab 12 bov) ++ (arrW cyI aw 64 wrv) ++ (larrW cyL ao 2 opv)) ++ mainC cyI cyO cyL ad had cs) → va_S A s.heap H locs → ∀ ls : Array Slot, lv_has ls 21 [(0, .ref b), (1, .ref (ad 0)), (2, .ref aq), (3, .ref ak), (4, .ref ab), (5, .ref aw), (6, .ref ao), (7, .int y7)] → W p l e room_1 s m (#[Value.ref b]) below meth c H locs 185 5982 (lw_Z below #[Value.ref b] s) (F0 m 42 ls [])) (k932 : (Nat → Int32) → (Nat → Int32) → (Nat → Int32) → (Nat → Int32) → (Nat → Int64) → CS → Int32 → Int32 → Int32 → Int32 → Int32 → Int32 → Int32 → Int32 → Int32 → Option (Int32)) (hk932 : ∀ (qv : Nat → Int32) (kev : Nat → Int32) (bov : Nat → Int32) (wrv : Nat → Int32) (opv : Nat → Int64) (cs : CS) (y7 : Int32) (y8 : Int32) (y10 : Int32) (y13 : Int32) (y14 : Int32) (y15 : Int32) (y16 : Int32) (y17 : Int32) (y18 : Int32), k932 qv kev bov wrv opv cs y7 y8 y10 y13 y14 y15 y16 y17 y18 = some 1 → ∀ (H : Heap) (locs : List Loc), va_P (dC, dI) vwCl (((arrW cyI aq 4 qv) ++ (arrW cyI ak 24 kev) ++ (arrW cyI ab 12 bov) ++ (arrW cyI aw 64 wrv) ++ (larrW cyL ao 2 opv)) ++ mainC cyI cyO cyL ad had cs) H → va_D A (((arrW cyI aq 4 qv) ++ (arrW cyI ak 24 kev) ++ (arrW cyI ab 12 bov) ++ (arrW cyI aw 64 wrv) ++ (larrW cyL ao 2 opv)) ++ mainC cyI cyO cyL ad had cs) → va_S A s.heap H locs → ∀ ls : Array Slot, lv_has ls 21 [(0, .ref b), (1, .ref (ad 0)), (2, .ref aq), (3, .ref ak), (4, .ref ab), (5, .ref aw), (6, .ref ao), (7, .int y7), (8, .int y8), (10, .int y10), (13, .int y13), (14, .int y14), (15, .int y15), (16, .int y16), (17, .int y17), (18, .int y18)] → W p l e room_1 s m (#[Value.ref b]) below meth c H locs 185 5982 (lw_Z below #[Value.ref b] s) (F0 m 932 ls [])) (qv : Nat → Int32) (kev : Nat → Int32) (bov : Nat → Int32) (wrv : Nat → Int32) (opv : Nat → Int64) (cs : CS) (y7 : Int32) (y8 : Int32) (y10 : Int32) (y13 : Int32) (y14 : Int32) (y15 : Int32) (y16 : Int32) (y17 : Int32) (y18 : Int32) (z0 : Int32) (z1 : Int32), fL_law_b958 L xs k42 k932 qv kev bov wrv opv cs y7 y8 y10 y13 y14 y15 y16 y17 y18 z0 z1 = some 1 → ∀ (H : Heap) (locs : List Loc), va_P (dC, dI) vwCl (((arrW cyI aq 4 qv) ++ (arrW cyI ak 24 kev) ++ (arrW cyI ab 12 bov) ++ (arrW cyI aw 64 wrv) ++ (larrW cyL ao 2 opv)) ++ mainC cyI cyO cyL ad had cs) H → va_D A (((arrW cyI aq 4 qv) ++ (arrW cyI ak 24 kev) ++ (arrW cyI ab 12 bov) ++ (arrW cyI aw 64 wrv) ++ (larrW cyL ao 2 opv)) ++ mainC cyI cyO cyL ad had cs) → va_S A s.heap H locs → ∀ ls : Array Slot, lv_has ls 21 [(0, .ref b), (1, .ref (ad 0)), (2, .ref aq), (3, .ref ak), (4, .ref ab), (5, .ref aw), (6, .ref ao), (7, .int y7), (8, .int y8), (10, .int y10), (13, .int y13), (14, .int y14), (15, .int y15), (16, .int y16), (17, .int y17), (18, .int y18)] → W p l e room_1 s m (#[Value.ref b]) below meth c H locs 185 5982 (lw_Z below #[Value.ref b] s) (F0 m 958 ls [.int z1, .int z0]) := by
    intro k42 hk42 k932 hk932 qv kev bov wrv opv cs y7 y8 y10 y13 y14 y15 y16 y17 y18 z0 z1 h H locs hP hD hS ls hl
    unfold fL_law_b958 at h
    refine lv_isub hx hb dL_law_958 ?_
    refine lv_istore (lv' := [(19, .int (z0 - z1)), (0, .ref b), (1, .ref (ad 0)), (2, .ref aq), (3, .ref ak), (4, .ref ab), (5, .ref aw), (6, .ref ao), (7, .int y7), (8, .int y8), (10, .int y10), (13, .int y13), (14, .int y14), (15, .int y15), (16, .int y16), (17, .int y17), (18, .int y18)]) hx hb dL_law_959 hl (by decide) rfl (fun ls hl => ?_)
    refine lv_iload hx hb dL_law_961 (lv_at hl 14 rfl) ?_
    refine lv_if_eq (tgt := 978) hx hb dL_law_963 (by decide) (fun c59 => ?_) (fun c59 => ?_)
    · have h := (if_pos c59).symm.trans h
      refine lv_iconst (v := 0) hx hb dL_law_978 (by decide) ?_
      refine lv_istore (lv' := [(16, .int 0), (19, .int (z0 - z1)), (0, .ref b), (1, .ref (ad 0)), (2, .ref aq), (3, .ref ak), (4, .ref ab), (5, .ref aw), (6, .ref ao), (7, .int y7), (8, .int y8), (10, .int y10), (13, .int y13), (14, .int y14), (15, .int y15), (17, .int y17), (18, .int y18)]) hx hb dL_law_979 hl (by decide) rfl (fun ls hl => ?_)
      refine lv_iload hx hb dL_law_981 (lv_at hl 15 rfl) ?_
      refine lv_iload hx hb dL_law_983 (lv_at hl 1 rfl) ?_
      refine lv_iadd hx hb dL_law_985 ?_
      refine lv_istore (lv' := [(17, .int (y17 + (z0 - z1))), (16, .int 0), (19, .int (z0 - z1)), (0, .ref b), (1, .ref (ad 0)), (2, .ref aq), (3, .ref ak), (4, .ref ab), (5, .ref aw), (6, .ref ao), (7, .int y7), (8, .int y8), (10, .int y10), (13, .int y13), (14, .int y14), (15, .int y15), (18, .int y18)]) hx hb dL_law_986 hl (by decide) rfl (fun ls hl => ?_)
      refine lv_aload_n hx hb dL_law_988 rfl (lv_at hl 6 rfl) ?_
      refine lv_iconst (v := 4) hx hb dL_law_989 (by decide) ?_
      refine lv_iload hx hb dL_law_990 (lv_at hl 16 rfl) ?_
      refine lv_imul hx hb dL_law_992 ?_
      obtain ⟨ni60, h⟩ := ifn h
      refine va_iald hx hb hK.1 hP 1 0 rfl rfl ni60 dL_law_993 ?_
      refine lv_istore (lv' := [(18, .int (kev (4 * y18).toNatClampNeg)), (17, .int (y17 + (z0 - z1))), (16, .int 0), (19, .int (z0 - z1)), (0, .ref b), (1, .ref (ad 0)), (2, .ref aq), (3, .ref ak), (4, .ref ab), (5, .ref aw), (6, .ref ao), (7, .int y7), (8, .int y8), (10, .int y10), (13, .int y13), (14, .int y14), (15, .int y15)]) hx hb dL_law_994 hl (by decide) rfl (fun ls hl => ?_)
      refine lv_goto (tgt := 932) hx hb dL_law_996 (by decide) ?_
      exact hk932 qv kev bov wrv opv cs y7 y8 y10 y13 y14 y15 0 (y17 + (z0 - z1)) (kev (4 * y18).toNatClampNeg) h _ _ hP hD hS ls (lv_sub hl [4, 5, 6, 7, 8, 9, 10, 11, 12, 13, 14, 15, 16, 2, 1, 0] rfl)
    · have h := (if_neg c59).symm.trans h
      refine lv_iload hx hb dL_law_966 (lv_at hl 0 rfl) ?_
      refine lv_aload_n hx hb dL_law_968 rfl (lv_at hl 3 rfl) ?_
      refine lv_iconst (v := 0) hx hb dL_law_969 (by decide) ?_
      obtain ⟨ni61, h⟩ := ifn h
      refine va_iald hx hb hK.1 hP 0 0 rfl rfl ni61 dL_law_970 ?_
      refine lv_icmp_gt (tgt := 978) hx hb dL_law_971 (by decide) (fun c62 => ?_) (fun c62 => ?_)
      · have h := (if_pos c62).symm.trans h
        refine lv_iconst (v := 0) hx hb dL_law_978 (by decide) ?_
        refine lv_istore (lv' := [(16, .int 0), (19, .int (z0 - z1)), (0, .ref b), (1, .ref (ad 0)), (2, .ref aq), (3, .ref ak), (4, .ref ab), (5, .ref aw), (6, .ref ao), (7, .int y7), (8, .int y8), (10, .int y10), (13, .int y13), (14, .int y14), (15, .int y15), (17, .int y17), (18, .int y18)]) hx hb dL_law_979 hl (by decide) rfl (fun ls hl => ?_)
        refine lv_iload hx hb dL_law_981 (lv_at hl 15 rfl) ?_
        refine lv_iload hx hb dL_law_983 (lv_at hl 1 rfl) ?_
        refine lv_iadd hx hb dL_law_985 ?_
        refine lv_istore (lv' := [(17, .int (y17 + (z0 - z1))), (16, .int 0), (19, .int (z0 - z1)), (0, .ref b), (1, .ref (ad 0)), (2, .ref aq), (3, .ref ak), (4, .ref ab), (5, .ref aw), (6, .ref ao), (7, .int y7), (8, .int y8), (10, .int y10), (13, .int y13), (14, .int y14), (15, .int y15), (18, .int y18)]) hx hb dL_law_986 hl (by decide) rfl (fun ls hl => ?_)
        refine lv_aload_n hx hb dL_law_988 rfl (lv_at hl 6 rfl) ?_
        refine lv_iconst (v := 4) hx hb dL_law_989 (by decide) ?_
        refine lv_iload hx hb dL_law_990 (lv_at hl 16 rfl) ?_
        refine lv_imul hx hb dL_law_992 ?_
        obtain ⟨ni63, h⟩ := ifn h
        refine va_iald hx hb hK.1 hP 1 0 rfl rfl ni63 dL_law_993 ?_
        refine lv_istore (lv' := [(18, .int (kev (4 * y18).toNatClampNeg)), (17, .int (y17 + (z0 - z1))), (16, .int 0), (19, .int (z0 - z1)), (0, .ref b), (1, .ref (ad 0)), (2, .ref aq), (3, .ref ak), (4, .ref ab), (5, .ref aw), (6, .ref ao), (7, .int y7), (8, .int y8), (10, .int y10), (13, .int y13), (14, .int y14), (15, .int y15)]) hx hb dL_law_994 hl (by decide) rfl (fun ls hl => ?_)
        refine lv_goto (tgt := 932) hx hb dL_law_996 (by decide) ?_
        exact hk932 qv kev bov wrv opv cs y7 y8 y10 y13 y14 y15 0 (y17 + (z0 - z1)) (kev (4 * y18).toNatClampNeg) h _ _ hP hD hS ls (lv_sub hl [4, 5, 6, 7, 8, 9, 10, 11, 12, 13, 14, 15, 16, 2, 1, 0] rfl)
      · have h := (if_neg c62).symm.trans h
        refine lv_iconst (v := 1) hx hb dL_law_974 (by decide) ?_
        refine lv_goto (tgt := 979) hx hb dL_law_975 (by decide) ?_
        refine lv_istore (lv' := [(16, .int 1), (19, .int (z0 - z1)), (0, .ref b), (1, .ref (ad 0)), (2, .ref aq), (3, .ref ak), (4, .ref ab), (5, .ref aw), (6, .ref ao), (7, .int y7), (8, .int y8), (10, .int y10), (13, .int y13), (14, .int y14), (15, .int y15), (17, .int y17), (18, .int y18)]) hx hb dL_law_979 hl (by decide) rfl (fun ls hl => ?_)
        refine lv_iload hx hb dL_law_981 (lv_at hl 15 rfl) ?_
        refine lv_iload hx hb dL_law_983 (lv_at hl 1 rfl) ?_
        refine lv_iadd hx hb dL_law_985 ?_
        refine lv_istore (lv' := [(17, .int (y17 + (z0 - z1))), (16, .int 1), (19, .int (z0 - z1)), (0, .ref b), (1, .ref (ad 0)), (2, .ref aq), (3, .ref ak), (4, .ref ab), (5, .ref aw), (6, .ref ao), (7, .int y7), (8, .int y8), (10, .int y10), (13, .int y13), (14, .int y14), (15, .int y15), (18, .int y18)]) hx hb dL_law_986 hl (by decide) rfl (fun ls hl => ?_)
        refine lv_aload_n hx hb dL_law_988 rfl (lv_at hl 6 rfl) ?_
        refine lv_iconst (v := 4) hx hb dL_law_989 (by decide) ?_
        refine lv_iload hx hb dL_law_990 (lv_at hl 16 rfl) ?_
        refine lv_imul hx hb dL_law_992 ?_
        obtain ⟨ni64, h⟩ := ifn h
        refine va_iald hx hb hK.1 hP 1 0 rfl rfl ni64 dL_law_993 ?_
        refine lv_istore (lv' := [(18, .int (kev (4 * y18).toNatClampNeg)), (17, .int (y17 + (z0 - z1))), (16, .int 1), (19, .int (z0 - z1)), (0, .ref b), (1, .ref (ad 0)), (2, .ref aq), (3, .ref ak), (4, .ref ab), (5, .ref aw), (6, .ref ao), (7, .int y7), (8, .int y8), (10, .int y10), (13, .int y13), (14, .int y14), (15, .int y15)]) hx hb dL_law_994 hl (by decide) rfl (fun ls hl => ?_)
        refine lv_goto (tgt := 932) hx hb dL_law_996 (by decide) ?_
        exact hk932 qv kev bov wrv opv cs y7 y8 y10 y13 y14 y15 1 (y17 + (z0 - z1)) (kev (4 * y18).toNatClampNeg) h _ _ hP hD hS ls (lv_sub hl [4, 5, 6, 7, 8, 9, 10, 11, 12, 13, 14, 15, 16, 2, 1, 0] rfl)
  have kB932 : ∀ (k42 : (Nat → Int32) → (Nat → Int32) → (Nat → Int32) → (Nat → Int32) → (Nat → Int64) → CS → Int32 → Option (Int32)) (hk42 : ∀ (qv : Nat → Int32) (kev : Nat → Int32) (bov : Nat → Int32) (wrv : Nat → Int32) (opv : Nat → Int64) (cs : CS) (y7 : Int32), k42 qv kev bov wrv opv cs y7 = some 1 → ∀ (H : Heap) (locs : List Loc), va_P (dC, dI) vwCl (((arrW cyI aq 4 qv) ++ (arrW cyI ak 24 kev) ++ (arrW cyI ab 12 bov) ++ (arrW cyI aw 64 wrv) ++ (larrW cyL ao 2 opv)) ++ mainC cyI cyO cyL ad had cs) H → va_D A (((arrW cyI aq 4 qv) ++ (arrW cyI ak 24 kev) ++ (arrW cyI ab 12 bov) ++ (arrW cyI aw 64 wrv) ++ (larrW cyL ao 2 opv)) ++ mainC cyI cyO cyL ad had cs) → va_S A s.heap H locs → ∀ ls : Array Slot, lv_has ls 21 [(0, .ref b), (1, .ref (ad 0)), (2, .ref aq), (3, .ref ak), (4, .ref ab), (5, .ref aw), (6, .ref ao), (7, .int y7)] → W p l e room_1 s m (#[Value.ref b]) below meth c H locs 185 5982 (lw_Z below #[Value.ref b] s) (F0 m 42 ls [])) (fuel : Nat) (qv : Nat → Int32) (kev : Nat → Int32) (bov : Nat → Int32) (wrv : Nat → Int32) (opv : Nat → Int64) (cs : CS) (y7 : Int32) (y8 : Int32) (y10 : Int32) (y13 : Int32) (y14 : Int32) (y15 : Int32) (y16 : Int32) (y17 : Int32) (y18 : Int32), fL_law_b932 L xs k42 fuel qv kev bov wrv opv cs y7 y8 y10 y13 y14 y15 y16 y17 y18 = some 1 → ∀ (H : Heap) (locs : List Loc), va_P (dC, dI) vwCl (((arrW cyI aq 4 qv) ++ (arrW cyI ak 24 kev) ++ (arrW cyI ab 12 bov) ++ (arrW cyI aw 64 wrv) ++ (larrW cyL ao 2 opv)) ++ mainC cyI cyO cyL ad had cs) H → va_D A (((arrW cyI aq 4 qv) ++ (arrW cyI ak 24 kev) ++ (arrW cyI ab 12 bov) ++ (arrW cyI aw 64 wrv) ++ (larrW cyL ao 2 opv)) ++ mainC cyI cyO cyL ad had cs) → va_S A s.heap H locs → ∀ ls : Array Slot, lv_has ls 21 [(0, .ref b), (1, .ref (ad 0)), (2, .ref aq), (3, .ref ak), (4, .ref ab), (5, .ref aw), (6, .ref ao), (7, .int y7), (8, .int y8), (10, .int y10), (13, .int y13), (14, .int y14), (15, .int y15), (16, .int y16), (17, .int y17), (18, .int y18)] → W p l e room_1 s m (#[Value.ref b]) below meth c H locs 185 5982 (lw_Z below #[Value.ref b] s) (F0 m 932 ls []) := by
    intro k42 hk42 fuel
    induction fuel with
    | zero => intro qv kev bov wrv opv cs y7 y8 y10 y13 y14 y15 y16 y17 y18 h; rw [fL_law_b932] at h; cases h
    | succ fuel ih =>
      intro qv kev bov wrv opv cs y7 y8 y10 y13 y14 y15 y16 y17 y18 h H locs hP hD hS ls hl
      rw [fL_law_b932] at h
      refine lv_iload hx hb dL_law_932 (lv_at hl 15 rfl) ?_
      refine lv_if_lt (tgt := 999) hx hb dL_law_934 (by decide) (fun c65 => ?_) (fun c65 => ?_)
      · have h := (if_pos c65).symm.trans h
        exact kB999 k42 hk42 qv kev bov wrv opv cs y7 y8 y10 y13 y14 y15 y16 y17 h _ _ hP hD hS ls (lv_sub hl [0, 1, 2, 3, 4, 5, 6, 7, 8, 9, 10, 11, 12, 13, 14] rfl)
      · have h := (if_neg c65).symm.trans h
        refine lv_iload hx hb dL_law_937 (lv_at hl 15 rfl) ?_
        refine lv_aload_n hx hb dL_law_939 rfl (lv_at hl 2 rfl) ?_
        refine lv_aload_n hx hb dL_law_940 rfl (lv_at hl 3 rfl) ?_
        refine lv_aload hx hb dL_law_941 (lv_at hl 4 rfl) ?_
        obtain ⟨q66, e67, h⟩ := ob h
        refine fr_ir (M := ((arrW cyI aq 4 qv) ++ (arrW cyI ak 24 kev) ++ (arrW cyI ab 12 bov))) (va_runS (As := [.int y18, .ref aq, .ref ak, .ref ab]) (rest := []) ⟨hx, hb, hml, hown, hts⟩ (mL_hang l dC dI cyI cyO cyL aq ak ab qv kev bov y18 _ q66 e67) (va_cwS 4 hts (gSL ml_L_101 st_L_hang in_L co_L_hang) rfl rfl rfl (by decide +kernel) ⟨Nat.le_of_ble_eq_true rfl, Nat.le_of_ble_eq_true rfl⟩) (cP_S hK hP hD [0, 1, 2] rfl rfl) rfl rfl hl.1 rfl (lv_room (Nat.le_of_ble_eq_true rfl)) dL_law_943 ⟨Nat.le_of_ble_eq_true rfl, Nat.le_of_ble_eq_true rfl⟩) hP hD hS hA [0, 1, 2] rfl (fun H locs hP hS => ?_)
        refine lv_iload hx hb dL_law_946 (lv_at hl 15 rfl) ?_
        refine lv_iload hx hb dL_law_948 (lv_at hl 12 rfl) ?_
        refine lv_icmp_ne (tgt := 957) hx hb dL_law_950 (by decide) (fun c68 => ?_) (fun c68 => ?_)
        · have h := (if_neg c68).symm.trans h
          refine lv_iconst (v := 0) hx hb dL_law_957 (by decide) ?_
          exact kB958 k42 hk42 (fL_law_b932 L xs k42 fuel) ih qv kev bov wrv opv cs y7 y8 y10 y13 y14 y15 y16 y17 y18 q66 0 h _ _ hP hD hS ls (lv_sub hl [0, 1, 2, 3, 4, 5, 6, 7, 8, 9, 10, 11, 12, 13, 14, 15] rfl)
        · have h := (if_pos c68).symm.trans h
          refine lv_iconst (v := 1) hx hb dL_law_953 (by decide) ?_
          refine lv_goto (tgt := 958) hx hb dL_law_954 (by decide) ?_
          exact kB958 k42 hk42 (fL_law_b932 L xs k42 fuel) ih qv kev bov wrv opv cs y7 y8 y10 y13 y14 y15 y16 y17 y18 q66 1 h _ _ hP hD hS ls (lv_sub hl [0, 1, 2, 3, 4, 5, 6, 7, 8, 9, 10, 11, 12, 13, 14, 15] rfl)
  have kB922 : ∀ (k42 : (Nat → Int32) → (Nat → Int32) → (Nat → Int32) → (Nat → Int32) → (Nat → Int64) → CS → Int32 → Option (Int32)) (hk42 : ∀ (qv : Nat → Int32) (kev : Nat → Int32) (bov : Nat → Int32) (wrv : Nat → Int32) (opv : Nat → Int64) (cs : CS) (y7 : Int32), k42 qv kev bov wrv opv cs y7 = some 1 → ∀ (H : Heap) (locs : List Loc), va_P (dC, dI) vwCl (((arrW cyI aq 4 qv) ++ (arrW cyI ak 24 kev) ++ (arrW cyI ab 12 bov) ++ (arrW cyI aw 64 wrv) ++ (larrW cyL ao 2 opv)) ++ mainC cyI cyO cyL ad had cs) H → va_D A (((arrW cyI aq 4 qv) ++ (arrW cyI ak 24 kev) ++ (arrW cyI ab 12 bov) ++ (arrW cyI aw 64 wrv) ++ (larrW cyL ao 2 opv)) ++ mainC cyI cyO cyL ad had cs) → va_S A s.heap H locs → ∀ ls : Array Slot, lv_has ls 21 [(0, .ref b), (1, .ref (ad 0)), (2, .ref aq), (3, .ref ak), (4, .ref ab), (5, .ref aw), (6, .ref ao), (7, .int y7)] → W p l e room_1 s m (#[Value.ref b]) below meth c H locs 185 5982 (lw_Z below #[Value.ref b] s) (F0 m 42 ls [])) (qv : Nat → Int32) (kev : Nat → Int32) (bov : Nat → Int32) (wrv : Nat → Int32) (opv : Nat → Int64) (cs : CS) (y7 : Int32) (y8 : Int32) (y10 : Int32) (y13 : Int32) (y14 : Int32) (y15 : Int32), fL_law_b922 L xs k42 qv kev bov wrv opv cs y7 y8 y10 y13 y14 y15 = some 1 → ∀ (H : Heap) (locs : List Loc), va_P (dC, dI) vwCl (((arrW cyI aq 4 qv) ++ (arrW cyI ak 24 kev) ++ (arrW cyI ab 12 bov) ++ (arrW cyI aw 64 wrv) ++ (larrW cyL ao 2 opv)) ++ mainC cyI cyO cyL ad had cs) H → va_D A (((arrW cyI aq 4 qv) ++ (arrW cyI ak 24 kev) ++ (arrW cyI ab 12 bov) ++ (arrW cyI aw 64 wrv) ++ (larrW cyL ao 2 opv)) ++ mainC cyI cyO cyL ad had cs) → va_S A s.heap H locs → ∀ ls : Array Slot, lv_has ls 21 [(0, .ref b), (1, .ref (ad 0)), (2, .ref aq), (3, .ref ak), (4, .ref ab), (5, .ref aw), (6, .ref ao), (7, .int y7), (8, .int y8), (10, .int y10), (13, .int y13), (14, .int y14), (15, .int y15)] → W p l e room_1 s m (#[Value.ref b]) below meth c H locs 185 5982 (lw_Z below #[Value.ref b] s) (F0 m 922 ls []) := by
    intro k42 hk42 qv kev bov wrv opv cs y7 y8 y10 y13 y14 y15 h H locs hP hD hS ls hl
    unfold fL_law_b922 at h
    refine lv_iconst (v := 1) hx hb dL_law_922 (by decide) ?_
    refine lv_istore (lv' := [(16, .int 1), (0, .ref b), (1, .ref (ad 0)), (2, .ref aq), (3, .ref ak), (4, .ref ab), (5, .ref aw), (6, .ref ao), (7, .int y7), (8, .int y8), (10, .int y10), (13, .int y13), (14, .int y14), (15, .int y15)]) hx hb dL_law_923 hl (by decide) rfl (fun ls hl => ?_)
    refine lv_iconst (v := 0) hx hb dL_law_925 (by decide) ?_
    refine lv_istore (lv' := [(17, .int 0), (16, .int 1), (0, .ref b), (1, .ref (ad 0)), (2, .ref aq), (3, .ref ak), (4, .ref ab), (5, .ref aw), (6, .ref ao), (7, .int y7), (8, .int y8), (10, .int y10), (13, .int y13), (14, .int y14), (15, .int y15)]) hx hb dL_law_926 hl (by decide) rfl (fun ls hl => ?_)
    refine lv_iload hx hb dL_law_928 (lv_at hl 14 rfl) ?_
    refine lv_istore (lv' := [(18, .int y15), (17, .int 0), (16, .int 1), (0, .ref b), (1, .ref (ad 0)), (2, .ref aq), (3, .ref ak), (4, .ref ab), (5, .ref aw), (6, .ref ao), (7, .int y7), (8, .int y8), (10, .int y10), (13, .int y13), (14, .int y14), (15, .int y15)]) hx hb dL_law_930 hl (by decide) rfl (fun ls hl => ?_)
    exact kB932 k42 hk42 6000 qv kev bov wrv opv cs y7 y8 y10 y13 y14 y15 1 0 y15 h _ _ hP hD hS ls (lv_sub hl [3, 4, 5, 6, 7, 8, 9, 10, 11, 12, 13, 14, 15, 2, 1, 0] rfl)
  have kB899 : ∀ (k42 : (Nat → Int32) → (Nat → Int32) → (Nat → Int32) → (Nat → Int32) → (Nat → Int64) → CS → Int32 → Option (Int32)) (hk42 : ∀ (qv : Nat → Int32) (kev : Nat → Int32) (bov : Nat → Int32) (wrv : Nat → Int32) (opv : Nat → Int64) (cs : CS) (y7 : Int32), k42 qv kev bov wrv opv cs y7 = some 1 → ∀ (H : Heap) (locs : List Loc), va_P (dC, dI) vwCl (((arrW cyI aq 4 qv) ++ (arrW cyI ak 24 kev) ++ (arrW cyI ab 12 bov) ++ (arrW cyI aw 64 wrv) ++ (larrW cyL ao 2 opv)) ++ mainC cyI cyO cyL ad had cs) H → va_D A (((arrW cyI aq 4 qv) ++ (arrW cyI ak 24 kev) ++ (arrW cyI ab 12 bov) ++ (arrW cyI aw 64 wrv) ++ (larrW cyL ao 2 opv)) ++ mainC cyI cyO cyL ad had cs) → va_S A s.heap H locs → ∀ ls : Array Slot, lv_has ls 21 [(0, .ref b), (1, .ref (ad 0)), (2, .ref aq), (3, .ref ak), (4, .ref ab), (5, .ref aw), (6, .ref ao), (7, .int y7)] → W p l e room_1 s m (#[Value.ref b]) below meth c H locs 185 5982 (lw_Z below #[Value.ref b] s) (F0 m 42 ls [])) (qv : Nat → Int32) (kev : Nat → Int32) (bov : Nat → Int32) (wrv : Nat → Int32) (opv : Nat → Int64) (cs : CS) (y7 : Int32) (y8 : Int32) (y10 : Int32) (y13 : Int32) (y14 : Int32), fL_law_b899 L xs k42 qv kev bov wrv opv cs y7 y8 y10 y13 y14 = some 1 → ∀ (H : Heap) (locs : List Loc), va_P (dC, dI) vwCl (((arrW cyI aq 4 qv) ++ (arrW cyI ak 24 kev) ++ (arrW cyI ab 12 bov) ++ (arrW cyI aw 64 wrv) ++ (larrW cyL ao 2 opv)) ++ mainC cyI cyO cyL ad had cs) H → va_D A (((arrW cyI aq 4 qv) ++ (arrW cyI ak 24 kev) ++ (arrW cyI ab 12 bov) ++ (arrW cyI aw 64 wrv) ++ (larrW cyL ao 2 opv)) ++ mainC cyI cyO cyL ad had cs) → va_S A s.heap H locs → ∀ ls : Array Slot, lv_has ls 21 [(0, .ref b), (1, .ref (ad 0)), (2, .ref aq), (3, .ref ak), (4, .ref ab), (5, .ref aw), (6, .ref ao), (7, .int y7), (8, .int y8), (10, .int y10), (13, .int y13), (14, .int y14)] → W p l e room_1 s m (#[Value.ref b]) below meth c H locs 185 5982 (lw_Z below #[Value.ref b] s) (F0 m 899 ls []) := by
    intro k42 hk42 qv kev bov wrv opv cs y7 y8 y10 y13 y14 h H locs hP hD hS ls hl
    unfold fL_law_b899 at h
    refine lv_iload hx hb dL_law_899 (lv_at hl 10 rfl) ?_
    refine lv_if_eq (tgt := 913) hx hb dL_law_901 (by decide) (fun c69 => ?_) (fun c69 => ?_)
    · have h := (if_pos c69).symm.trans h
      refine lv_aload hx hb dL_law_913 (lv_at hl 4 rfl) ?_
      refine lv_iconst (v := 2) hx hb dL_law_915 (by decide) ?_
      refine lv_iload hx hb dL_law_916 (lv_at hl 11 rfl) ?_
      refine lv_imul hx hb dL_law_918 ?_
      obtain ⟨ni70, h⟩ := ifn h
      refine va_iald hx hb hK.1 hP 2 0 rfl rfl ni70 dL_law_919 ?_
      refine lv_istore (lv' := [(15, .int (bov (2 * y14).toNatClampNeg)), (0, .ref b), (1, .ref (ad 0)), (2, .ref aq), (3, .ref ak), (4, .ref ab), (5, .ref aw), (6, .ref ao), (7, .int y7), (8, .int y8), (10, .int y10), (13, .int y13), (14, .int y14)]) hx hb dL_law_920 hl (by decide) rfl (fun ls hl => ?_)
      exact kB922 k42 hk42 qv kev bov wrv opv cs y7 y8 y10 y13 y14 (bov (2 * y14).toNatClampNeg) h _ _ hP hD hS ls (lv_sub hl [1, 2, 3, 4, 5, 6, 7, 8, 9, 10, 11, 12, 0] rfl)
    · have h := (if_neg c69).symm.trans h
      refine lv_aload_n hx hb dL_law_904 rfl (lv_at hl 3 rfl) ?_
      refine lv_iconst (v := 4) hx hb dL_law_905 (by decide) ?_
      refine lv_iload hx hb dL_law_906 (lv_at hl 9 rfl) ?_
      refine lv_imul hx hb dL_law_908 ?_
      obtain ⟨ni71, h⟩ := ifn h
      refine va_iald hx hb hK.1 hP 1 0 rfl rfl ni71 dL_law_909 ?_
      refine lv_goto (tgt := 920) hx hb dL_law_910 (by decide) ?_
      refine lv_istore (lv' := [(15, .int (kev (4 * y10).toNatClampNeg)), (0, .ref b), (1, .ref (ad 0)), (2, .ref aq), (3, .ref ak), (4, .ref ab), (5, .ref aw), (6, .ref ao), (7, .int y7), (8, .int y8), (10, .int y10), (13, .int y13), (14, .int y14)]) hx hb dL_law_920 hl (by decide) rfl (fun ls hl => ?_)
      exact kB922 k42 hk42 qv kev bov wrv opv cs y7 y8 y10 y13 y14 (kev (4 * y10).toNatClampNeg) h _ _ hP hD hS ls (lv_sub hl [1, 2, 3, 4, 5, 6, 7, 8, 9, 10, 11, 12, 0] rfl)
  have kB863 : ∀ (k42 : (Nat → Int32) → (Nat → Int32) → (Nat → Int32) → (Nat → Int32) → (Nat → Int64) → CS → Int32 → Option (Int32)) (hk42 : ∀ (qv : Nat → Int32) (kev : Nat → Int32) (bov : Nat → Int32) (wrv : Nat → Int32) (opv : Nat → Int64) (cs : CS) (y7 : Int32), k42 qv kev bov wrv opv cs y7 = some 1 → ∀ (H : Heap) (locs : List Loc), va_P (dC, dI) vwCl (((arrW cyI aq 4 qv) ++ (arrW cyI ak 24 kev) ++ (arrW cyI ab 12 bov) ++ (arrW cyI aw 64 wrv) ++ (larrW cyL ao 2 opv)) ++ mainC cyI cyO cyL ad had cs) H → va_D A (((arrW cyI aq 4 qv) ++ (arrW cyI ak 24 kev) ++ (arrW cyI ab 12 bov) ++ (arrW cyI aw 64 wrv) ++ (larrW cyL ao 2 opv)) ++ mainC cyI cyO cyL ad had cs) → va_S A s.heap H locs → ∀ ls : Array Slot, lv_has ls 21 [(0, .ref b), (1, .ref (ad 0)), (2, .ref aq), (3, .ref ak), (4, .ref ab), (5, .ref aw), (6, .ref ao), (7, .int y7)] → W p l e room_1 s m (#[Value.ref b]) below meth c H locs 185 5982 (lw_Z below #[Value.ref b] s) (F0 m 42 ls [])) (qv : Nat → Int32) (kev : Nat → Int32) (bov : Nat → Int32) (wrv : Nat → Int32) (opv : Nat → Int64) (cs : CS) (y7 : Int32) (y8 : Int32) (y10 : Int32) (y11 : Int32) (y13 : Int32) (z0 : Int32), fL_law_b863 L xs k42 qv kev bov wrv opv cs y7 y8 y10 y11 y13 z0 = some 1 → ∀ (H : Heap) (locs : List Loc), va_P (dC, dI) vwCl (((arrW cyI aq 4 qv) ++ (arrW cyI ak 24 kev) ++ (arrW cyI ab 12 bov) ++ (arrW cyI aw 64 wrv) ++ (larrW cyL ao 2 opv)) ++ mainC cyI cyO cyL ad had cs) H → va_D A (((arrW cyI aq 4 qv) ++ (arrW cyI ak 24 kev) ++ (arrW cyI ab 12 bov) ++ (arrW cyI aw 64 wrv) ++ (larrW cyL ao 2 opv)) ++ mainC cyI cyO cyL ad had cs) → va_S A s.heap H locs → ∀ ls : Array Slot, lv_has ls 21 [(0, .ref b), (1, .ref (ad 0)), (2, .ref aq), (3, .ref ak), (4, .ref ab), (5, .ref aw), (6, .ref ao), (7, .int y7), (8, .int y8), (10, .int y10), (11, .int y11), (13, .int y13)] → W p l e room_1 s m (#[Value.ref b]) below meth c H locs 185 5982 (lw_Z below #[Value.ref b] s) (F0 m 863 ls [.int z0]) := by
    intro k42 hk42 qv kev bov wrv opv cs y7 y8 y10 y11 y13 z0 h H locs hP hD hS ls hl
    unfold fL_law_b863 at h
    refine lv_istore (lv' := [(14, .int z0), (0, .ref b), (1, .ref (ad 0)), (2, .ref aq), (3, .ref ak), (4, .ref ab), (5, .ref aw), (6, .ref ao), (7, .int y7), (8, .int y8), (10, .int y10), (11, .int y11), (13, .int y13)]) hx hb dL_law_863 hl (by decide) rfl (fun ls hl => ?_)
    refine lv_iload hx hb dL_law_865 (lv_at hl 12 rfl) ?_
    refine lv_if_eq (tgt := 878) hx hb dL_law_867 (by decide) (fun c72 => ?_) (fun c72 => ?_)
    · have h := (if_pos c72).symm.trans h
      refine lv_aload_n hx hb dL_law_878 rfl (lv_at hl 3 rfl) ?_
      refine lv_iconst (v := 2) hx hb dL_law_879 (by decide) ?_
      obtain ⟨ni73, h⟩ := ifn h
      refine va_iald hx hb hK.1 hP 0 0 rfl rfl ni73 dL_law_880 ?_
      refine lv_if_eq (tgt := 1229) hx hb dL_law_881 (by decide) (fun c74 => ?_) (fun c74 => ?_)
      · have h := (if_pos c74).symm.trans h
        exact kB1229 k42 hk42 qv kev bov wrv opv cs y7 h _ _ hP hD hS ls (lv_sub hl [1, 2, 3, 4, 5, 6, 7, 8] rfl)
      · have h := (if_neg c74).symm.trans h
        refine lv_aload hx hb dL_law_884 (lv_at hl 5 rfl) ?_
        refine lv_iconst (v := 2) hx hb dL_law_886 (by decide) ?_
        refine lv_iload hx hb dL_law_887 (lv_at hl 0 rfl) ?_
        refine lv_imul hx hb dL_law_889 ?_
        refine lv_iconst (v := 1) hx hb dL_law_890 (by decide) ?_
        refine lv_iadd hx hb dL_law_891 ?_
        obtain ⟨ni75, h⟩ := ifn h
        refine va_iald hx hb hK.1 hP 2 0 rfl rfl ni75 dL_law_892 ?_
        refine lv_if_ne (tgt := 899) hx hb dL_law_893 (by decide) (fun c76 => ?_) (fun c76 => ?_)
        · have h := (if_neg c76).symm.trans h
          exact kB899 k42 hk42 qv kev bov wrv opv cs y7 y8 y10 y13 z0 h _ _ hP hD hS ls (lv_sub hl [1, 2, 3, 4, 5, 6, 7, 8, 9, 10, 12, 0] rfl)
        · have h := (if_pos c76).symm.trans h
          refine lv_goto (tgt := 1229) hx hb dL_law_896 (by decide) ?_
          exact kB1229 k42 hk42 qv kev bov wrv opv cs y7 h _ _ hP hD hS ls (lv_sub hl [1, 2, 3, 4, 5, 6, 7, 8] rfl)
    · have h := (if_neg c72).symm.trans h
      refine lv_iload hx hb dL_law_870 (lv_at hl 11 rfl) ?_
      refine lv_if_ne (tgt := 899) hx hb dL_law_872 (by decide) (fun c77 => ?_) (fun c77 => ?_)
      · have h := (if_neg c77).symm.trans h
        exact kB899 k42 hk42 qv kev bov wrv opv cs y7 y8 y10 y13 z0 h _ _ hP hD hS ls (lv_sub hl [1, 2, 3, 4, 5, 6, 7, 8, 9, 10, 12, 0] rfl)
      · have h := (if_pos c77).symm.trans h
        refine lv_goto (tgt := 1229) hx hb dL_law_875 (by decide) ?_
        exact kB1229 k42 hk42 qv kev bov wrv opv cs y7 h _ _ hP hD hS ls (lv_sub hl [1, 2, 3, 4, 5, 6, 7, 8] rfl)
  have kB829 : ∀ (k42 : (Nat → Int32) → (Nat → Int32) → (Nat → Int32) → (Nat → Int32) → (Nat → Int64) → CS → Int32 → Option (Int32)) (hk42 : ∀ (qv : Nat → Int32) (kev : Nat → Int32) (bov : Nat → Int32) (wrv : Nat → Int32) (opv : Nat → Int64) (cs : CS) (y7 : Int32), k42 qv kev bov wrv opv cs y7 = some 1 → ∀ (H : Heap) (locs : List Loc), va_P (dC, dI) vwCl (((arrW cyI aq 4 qv) ++ (arrW cyI ak 24 kev) ++ (arrW cyI ab 12 bov) ++ (arrW cyI aw 64 wrv) ++ (larrW cyL ao 2 opv)) ++ mainC cyI cyO cyL ad had cs) H → va_D A (((arrW cyI aq 4 qv) ++ (arrW cyI ak 24 kev) ++ (arrW cyI ab 12 bov) ++ (arrW cyI aw 64 wrv) ++ (larrW cyL ao 2 opv)) ++ mainC cyI cyO cyL ad had cs) → va_S A s.heap H locs → ∀ ls : Array Slot, lv_has ls 21 [(0, .ref b), (1, .ref (ad 0)), (2, .ref aq), (3, .ref ak), (4, .ref ab), (5, .ref aw), (6, .ref ao), (7, .int y7)] → W p l e room_1 s m (#[Value.ref b]) below meth c H locs 185 5982 (lw_Z below #[Value.ref b] s) (F0 m 42 ls [])) (qv : Nat → Int32) (kev : Nat → Int32) (bov : Nat → Int32) (wrv : Nat → Int32) (opv : Nat → Int64) (cs : CS) (y7 : Int32) (y8 : Int32) (y9 : Int32) (y10 : Int32) (y11 : Int32), fL_law_b829 L xs k42 qv kev bov wrv opv cs y7 y8 y9 y10 y11 = some 1 → ∀ (H : Heap) (locs : List Loc), va_P (dC, dI) vwCl (((arrW cyI aq 4 qv) ++ (arrW cyI ak 24 kev) ++ (arrW cyI ab 12 bov) ++ (arrW cyI aw 64 wrv) ++ (larrW cyL ao 2 opv)) ++ mainC cyI cyO cyL ad had cs) H → va_D A (((arrW cyI aq 4 qv) ++ (arrW cyI ak 24 kev) ++ (arrW cyI ab 12 bov) ++ (arrW cyI aw 64 wrv) ++ (larrW cyL ao 2 opv)) ++ mainC cyI cyO cyL ad had cs) → va_S A s.heap H locs → ∀ ls : Array Slot, lv_has ls 21 [(0, .ref b), (1, .ref (ad 0)), (2, .ref aq), (3, .ref ak), (4, .ref ab), (5, .ref aw), (6, .ref ao), (7, .int y7), (8, .int y8), (9, .int y9), (10, .int y10), (11, .int y11)] → W p l e room_1 s m (#[Value.ref b]) below meth c H locs 185 5982 (lw_Z below #[Value.ref b] s) (F0 m 829 ls []) := by
    intro k42 hk42 qv kev bov wrv opv cs y7 y8 y9 y10 y11 h H locs hP hD hS ls hl
    unfold fL_law_b829 at h
    refine lv_iload hx hb dL_law_829 (lv_at hl 9 rfl) ?_
    refine lv_bipush (v := 8) hx hb dL_law_831 (by decide) ?_
    refine lv_icmp_ne (tgt := 840) hx hb dL_law_833 (by decide) (fun c78 => ?_) (fun c78 => ?_)
    · have h := (if_neg c78).symm.trans h
      refine lv_iconst (v := 0) hx hb dL_law_840 (by decide) ?_
      refine lv_istore (lv' := [(13, .int 0), (0, .ref b), (1, .ref (ad 0)), (2, .ref aq), (3, .ref ak), (4, .ref ab), (5, .ref aw), (6, .ref ao), (7, .int y7), (8, .int y8), (9, .int y9), (10, .int y10), (11, .int y11)]) hx hb dL_law_841 hl (by decide) rfl (fun ls hl => ?_)
      refine lv_aload_n hx hb dL_law_843 rfl (lv_at hl 3 rfl) ?_
      refine lv_iconst (v := 2) hx hb dL_law_844 (by decide) ?_
      obtain ⟨ni79, h⟩ := ifn h
      refine va_iald hx hb hK.1 hP 0 0 rfl rfl ni79 dL_law_845 ?_
      refine lv_if_ne (tgt := 853) hx hb dL_law_846 (by decide) (fun c80 => ?_) (fun c80 => ?_)
      · have h := (if_neg c80).symm.trans h
        refine lv_iload hx hb dL_law_853 (lv_at hl 9 rfl) ?_
        refine lv_iconst (v := 4) hx hb dL_law_855 (by decide) ?_
        refine lv_ishr hx hb dL_law_856 ?_
        refine lv_aload_n hx hb dL_law_857 rfl (lv_at hl 3 rfl) ?_
        refine lv_iconst (v := 2) hx hb dL_law_858 (by decide) ?_
        obtain ⟨ni81, h⟩ := ifn h
        refine va_iald hx hb hK.1 hP 0 0 rfl rfl ni81 dL_law_859 ?_
        obtain ⟨q82, e83, h⟩ := ob h
        refine fr_ir (M := ([] : va_W)) (va_runS (As := [.int (y8 >>> ((4 : Int32) &&& 31)), .int (qv (2 : Int32).toNatClampNeg)]) (rest := []) ⟨hx, hb, hml, hown, hts⟩ (mL_low l dC dI cyI cyO cyL (y8 >>> ((4 : Int32) &&& 31)) (qv (2 : Int32).toNatClampNeg) _ q82 e83) (va_cwS 2 hts (gSL ml_L_60 st_L_low in_L co_L_low) rfl rfl rfl (by decide +kernel) ⟨Nat.le_of_ble_eq_true rfl, Nat.le_of_ble_eq_true rfl⟩) (cP_S hK hP hD [] rfl rfl) rfl rfl hl.1 rfl (lv_room (Nat.le_of_ble_eq_true rfl)) dL_law_860 ⟨Nat.le_of_ble_eq_true rfl, Nat.le_of_ble_eq_true rfl⟩) hP hD hS hA [] rfl (fun H locs hP hS => ?_)
        exact kB863 k42 hk42 qv kev bov wrv opv cs y7 y8 y10 y11 0 q82 h _ _ hP hD hS ls (lv_sub hl [1, 2, 3, 4, 5, 6, 7, 8, 9, 11, 12, 0] rfl)
      · have h := (if_pos c80).symm.trans h
        refine lv_iconst (v := 0) hx hb dL_law_849 (by decide) ?_
        refine lv_goto (tgt := 863) hx hb dL_law_850 (by decide) ?_
        exact kB863 k42 hk42 qv kev bov wrv opv cs y7 y8 y10 y11 0 0 h _ _ hP hD hS ls (lv_sub hl [1, 2, 3, 4, 5, 6, 7, 8, 9, 11, 12, 0] rfl)
    · have h := (if_pos c78).symm.trans h
      refine lv_iconst (v := 1) hx hb dL_law_836 (by decide) ?_
      refine lv_goto (tgt := 841) hx hb dL_law_837 (by decide) ?_
      refine lv_istore (lv' := [(13, .int 1), (0, .ref b), (1, .ref (ad 0)), (2, .ref aq), (3, .ref ak), (4, .ref ab), (5, .ref aw), (6, .ref ao), (7, .int y7), (8, .int y8), (9, .int y9), (10, .int y10), (11, .int y11)]) hx hb dL_law_841 hl (by decide) rfl (fun ls hl => ?_)
      refine lv_aload_n hx hb dL_law_843 rfl (lv_at hl 3 rfl) ?_
      refine lv_iconst (v := 2) hx hb dL_law_844 (by decide) ?_
      obtain ⟨ni84, h⟩ := ifn h
      refine va_iald hx hb hK.1 hP 0 0 rfl rfl ni84 dL_law_845 ?_
      refine lv_if_ne (tgt := 853) hx hb dL_law_846 (by decide) (fun c85 => ?_) (fun c85 => ?_)
      · have h := (if_neg c85).symm.trans h
        refine lv_iload hx hb dL_law_853 (lv_at hl 9 rfl) ?_
        refine lv_iconst (v := 4) hx hb dL_law_855 (by decide) ?_
        refine lv_ishr hx hb dL_law_856 ?_
        refine lv_aload_n hx hb dL_law_857 rfl (lv_at hl 3 rfl) ?_
        refine lv_iconst (v := 2) hx hb dL_law_858 (by decide) ?_
        obtain ⟨ni86, h⟩ := ifn h
        refine va_iald hx hb hK.1 hP 0 0 rfl rfl ni86 dL_law_859 ?_
        obtain ⟨q87, e88, h⟩ := ob h
        refine fr_ir (M := ([] : va_W)) (va_runS (As := [.int (y8 >>> ((4 : Int32) &&& 31)), .int (qv (2 : Int32).toNatClampNeg)]) (rest := []) ⟨hx, hb, hml, hown, hts⟩ (mL_low l dC dI cyI cyO cyL (y8 >>> ((4 : Int32) &&& 31)) (qv (2 : Int32).toNatClampNeg) _ q87 e88) (va_cwS 2 hts (gSL ml_L_60 st_L_low in_L co_L_low) rfl rfl rfl (by decide +kernel) ⟨Nat.le_of_ble_eq_true rfl, Nat.le_of_ble_eq_true rfl⟩) (cP_S hK hP hD [] rfl rfl) rfl rfl hl.1 rfl (lv_room (Nat.le_of_ble_eq_true rfl)) dL_law_860 ⟨Nat.le_of_ble_eq_true rfl, Nat.le_of_ble_eq_true rfl⟩) hP hD hS hA [] rfl (fun H locs hP hS => ?_)
        exact kB863 k42 hk42 qv kev bov wrv opv cs y7 y8 y10 y11 1 q87 h _ _ hP hD hS ls (lv_sub hl [1, 2, 3, 4, 5, 6, 7, 8, 9, 11, 12, 0] rfl)
      · have h := (if_pos c85).symm.trans h
        refine lv_iconst (v := 0) hx hb dL_law_849 (by decide) ?_
        refine lv_goto (tgt := 863) hx hb dL_law_850 (by decide) ?_
        exact kB863 k42 hk42 qv kev bov wrv opv cs y7 y8 y10 y11 1 0 h _ _ hP hD hS ls (lv_sub hl [1, 2, 3, 4, 5, 6, 7, 8, 9, 11, 12, 0] rfl)
  have kB794 : ∀ (k42 : (Nat → Int32) → (Nat → Int32) → (Nat → Int32) → (Nat → Int32) → (Nat → Int64) → CS → Int32 → Option (Int32)) (hk42 : ∀ (qv : Nat → Int32) (kev : Nat → Int32) (bov : Nat → Int32) (wrv : Nat → Int32) (opv : Nat → Int64) (cs : CS) (y7 : Int32), k42 qv kev bov wrv opv cs y7 = some 1 → ∀ (H : Heap) (locs : List Loc), va_P (dC, dI) vwCl (((arrW cyI aq 4 qv) ++ (arrW cyI ak 24 kev) ++ (arrW cyI ab 12 bov) ++ (arrW cyI aw 64 wrv) ++ (larrW cyL ao 2 opv)) ++ mainC cyI cyO cyL ad had cs) H → va_D A (((arrW cyI aq 4 qv) ++ (arrW cyI ak 24 kev) ++ (arrW cyI ab 12 bov) ++ (arrW cyI aw 64 wrv) ++ (larrW cyL ao 2 opv)) ++ mainC cyI cyO cyL ad had cs) → va_S A s.heap H locs → ∀ ls : Array Slot, lv_has ls 21 [(0, .ref b), (1, .ref (ad 0)), (2, .ref aq), (3, .ref ak), (4, .ref ab), (5, .ref aw), (6, .ref ao), (7, .int y7)] → W p l e room_1 s m (#[Value.ref b]) below meth c H locs 185 5982 (lw_Z below #[Value.ref b] s) (F0 m 42 ls [])) (qv : Nat → Int32) (kev : Nat → Int32) (bov : Nat → Int32) (wrv : Nat → Int32) (opv : Nat → Int64) (cs : CS) (y7 : Int32) (y8 : Int32), fL_law_b794 L xs k42 qv kev bov wrv opv cs y7 y8 = some 1 → ∀ (H : Heap) (locs : List Loc), va_P (dC, dI) vwCl (((arrW cyI aq 4 qv) ++ (arrW cyI ak 24 kev) ++ (arrW cyI ab 12 bov) ++ (arrW cyI aw 64 wrv) ++ (larrW cyL ao 2 opv)) ++ mainC cyI cyO cyL ad had cs) H → va_D A (((arrW cyI aq 4 qv) ++ (arrW cyI ak 24 kev) ++ (arrW cyI ab 12 bov) ++ (arrW cyI aw 64 wrv) ++ (larrW cyL ao 2 opv)) ++ mainC cyI cyO cyL ad had cs) → va_S A s.heap H locs → ∀ ls : Array Slot, lv_has ls 21 [(0, .ref b), (1, .ref (ad 0)), (2, .ref aq), (3, .ref ak), (4, .ref ab), (5, .ref aw), (6, .ref ao), (7, .int y7), (8, .int y8)] → W p l e room_1 s m (#[Value.ref b]) below meth c H locs 185 5982 (lw_Z below #[Value.ref b] s) (F0 m 794 ls []) := by
    intro k42 hk42 qv kev bov wrv opv cs y7 y8 h H locs hP hD hS ls hl
    unfold fL_law_b794 at h
    refine lv_iconst (v := 2) hx hb dL_law_794 (by decide) ?_
    refine lv_iload hx hb dL_law_795 (lv_at hl 8 rfl) ?_
    refine lv_iconst (v := 4) hx hb dL_law_797 (by decide) ?_
    refine lv_ishr hx hb dL_law_798 ?_
    refine lv_bipush (v := 8) hx hb dL_law_799 (by decide) ?_
    obtain ⟨q89, e90, h⟩ := ob h
    refine fr_ir (M := ([] : va_W)) (va_runS (As := [.int (y8 >>> ((4 : Int32) &&& 31)), .int 8]) (rest := [.int 2]) ⟨hx, hb, hml, hown, hts⟩ (mL_low l dC dI cyI cyO cyL (y8 >>> ((4 : Int32) &&& 31)) 8 _ q89 e90) (va_cwS 2 hts (gSL ml_L_60 st_L_low in_L co_L_low) rfl rfl rfl (by decide +kernel) ⟨Nat.le_of_ble_eq_true rfl, Nat.le_of_ble_eq_true rfl⟩) (cP_S hK hP hD [] rfl rfl) rfl rfl hl.1 rfl (lv_room (Nat.le_of_ble_eq_true rfl)) dL_law_801 ⟨Nat.le_of_ble_eq_true rfl, Nat.le_of_ble_eq_true rfl⟩) hP hD hS hA [] rfl (fun H locs hP hS => ?_)
    refine lv_iadd hx hb dL_law_804 ?_
    refine lv_istore (lv' := [(13, .int (2 + q89)), (0, .ref b), (1, .ref (ad 0)), (2, .ref aq), (3, .ref ak), (4, .ref ab), (5, .ref aw), (6, .ref ao), (7, .int y7), (8, .int y8)]) hx hb dL_law_805 hl (by decide) rfl (fun ls hl => ?_)
    refine lv_aload_n hx hb dL_law_807 rfl (lv_at hl 2 rfl) ?_
    refine lv_iload hx hb dL_law_808 (lv_at hl 0 rfl) ?_
    obtain ⟨q91, e92, h⟩ := ob h
    refine fr_iG (M := mainC cyI cyO cyL ad had cs) (M' := mainC cyI cyO cyL ad had q91.2) (L' := (((arrW cyI aq 4 qv) ++ (arrW cyI ak 24 kev) ++ (arrW cyI ab 12 bov) ++ (arrW cyI aw 64 wrv) ++ (larrW cyL ao 2 opv)) ++ mainC cyI cyO cyL ad had q91.2)) (F := ((arrW cyI aq 4 qv) ++ (arrW cyI ak 24 kev) ++ (arrW cyI ab 12 bov) ++ (arrW cyI aw 64 wrv) ++ (larrW cyL ao 2 opv))) (va_runV (As := [.int (2 + q89)]) (rest := []) ⟨hx, hb, hml, hown, hts⟩ (uX7_wear l dC dI cyI cyO cyL ad had cs q91.2 (2 + q89) q91.1 e92 _) (cwV 1 hts (gVL ml_L_108 im_X7_wear se_X7_wear in_X7 co_X7_wear) rfl rfl rfl (by decide +kernel) ⟨Nat.le_of_ble_eq_true rfl, Nat.le_of_ble_eq_true rfl⟩) (cP_VG hK hP hD List.perm_append_comm 0 rfl rfl) rfl rfl hl.1 rfl (lv_room (Nat.le_of_ble_eq_true rfl)) dL_law_810 ⟨Nat.le_of_ble_eq_true rfl, Nat.le_of_ble_eq_true rfl⟩) hP hD hS hA List.perm_append_comm List.perm_append_comm mainC_ads (fun H locs hP hD hS => ?_)
    refine lv_aload_n hx hb dL_law_813 rfl (lv_at hl 3 rfl) ?_
    refine lv_iconst (v := 0) hx hb dL_law_814 (by decide) ?_
    obtain ⟨ni93, h⟩ := ifn h
    refine va_iald hx hb hK.1 hP 0 0 rfl rfl ni93 dL_law_815 ?_
    refine lv_icmp_eq (tgt := 821) hx hb dL_law_816 (by decide) (fun c94 => ?_) (fun c94 => ?_)
    · have h := (if_pos c94).symm.trans h
      refine lv_aload_n hx hb dL_law_821 rfl (lv_at hl 3 rfl) ?_
      refine lv_iconst (v := 0) hx hb dL_law_822 (by decide) ?_
      refine lv_iload hx hb dL_law_823 (lv_at hl 0 rfl) ?_
      obtain ⟨ni95, h⟩ := ifn h
      refine va_iast hx hb hK.1 hP hD hS 0 0 rfl rfl ni95 dL_law_825 (fun H locs hP hD hS => ?_)
      have hP : va_P (dC, dI) vwCl (((arrW cyI aq 4 (upd qv (0 : Int32).toNatClampNeg (2 + q89))) ++ (arrW cyI ak 24 kev) ++ (arrW cyI ab 12 bov) ++ (arrW cyI aw 64 wrv) ++ (larrW cyL ao 2 opv)) ++ mainC cyI cyO cyL ad had q91.2) H := hP
      have hD : va_D A (((arrW cyI aq 4 (upd qv (0 : Int32).toNatClampNeg (2 + q89))) ++ (arrW cyI ak 24 kev) ++ (arrW cyI ab 12 bov) ++ (arrW cyI aw 64 wrv) ++ (larrW cyL ao 2 opv)) ++ mainC cyI cyO cyL ad had q91.2) := hD
      refine lv_goto (tgt := 1208) hx hb dL_law_826 (by decide) ?_
      exact kB1208 k42 hk42 (upd qv (0 : Int32).toNatClampNeg (2 + q89)) kev bov wrv opv q91.2 y7 y8 h _ _ hP hD hS ls (lv_sub hl [1, 2, 3, 4, 5, 6, 7, 8, 9] rfl)
    · have h := (if_neg c94).symm.trans h
      refine lv_iconst (v := 0) hx hb dL_law_819 (by decide) ?_
      exact absurd (Option.some.inj h) (by decide)
  have kB711 : ∀ (k42 : (Nat → Int32) → (Nat → Int32) → (Nat → Int32) → (Nat → Int32) → (Nat → Int64) → CS → Int32 → Option (Int32)) (hk42 : ∀ (qv : Nat → Int32) (kev : Nat → Int32) (bov : Nat → Int32) (wrv : Nat → Int32) (opv : Nat → Int64) (cs : CS) (y7 : Int32), k42 qv kev bov wrv opv cs y7 = some 1 → ∀ (H : Heap) (locs : List Loc), va_P (dC, dI) vwCl (((arrW cyI aq 4 qv) ++ (arrW cyI ak 24 kev) ++ (arrW cyI ab 12 bov) ++ (arrW cyI aw 64 wrv) ++ (larrW cyL ao 2 opv)) ++ mainC cyI cyO cyL ad had cs) H → va_D A (((arrW cyI aq 4 qv) ++ (arrW cyI ak 24 kev) ++ (arrW cyI ab 12 bov) ++ (arrW cyI aw 64 wrv) ++ (larrW cyL ao 2 opv)) ++ mainC cyI cyO cyL ad had cs) → va_S A s.heap H locs → ∀ ls : Array Slot, lv_has ls 21 [(0, .ref b), (1, .ref (ad 0)), (2, .ref aq), (3, .ref ak), (4, .ref ab), (5, .ref aw), (6, .ref ao), (7, .int y7)] → W p l e room_1 s m (#[Value.ref b]) below meth c H locs 185 5982 (lw_Z below #[Value.ref b] s) (F0 m 42 ls [])) (qv : Nat → Int32) (kev : Nat → Int32) (bov : Nat → Int32) (wrv : Nat → Int32) (opv : Nat → Int64) (cs : CS) (y7 : Int32) (y8 : Int32) (y10 : Int32) (y13 : Int32) (y15 : Int32), fL_law_b711 L xs k42 qv kev bov wrv opv cs y7 y8 y10 y13 y15 = some 1 → ∀ (H : Heap) (locs : List Loc), va_P (dC, dI) vwCl (((arrW cyI aq 4 qv) ++ (arrW cyI ak 24 kev) ++ (arrW cyI ab 12 bov) ++ (arrW cyI aw 64 wrv) ++ (larrW cyL ao 2 opv)) ++ mainC cyI cyO cyL ad had cs) H → va_D A (((arrW cyI aq 4 qv) ++ (arrW cyI ak 24 kev) ++ (arrW cyI ab 12 bov) ++ (arrW cyI aw 64 wrv) ++ (larrW cyL ao 2 opv)) ++ mainC cyI cyO cyL ad had cs) → va_S A s.heap H locs → ∀ ls : Array Slot, lv_has ls 21 [(0, .ref b), (1, .ref (ad 0)), (2, .ref aq), (3, .ref ak), (4, .ref ab), (5, .ref aw), (6, .ref ao), (7, .int y7), (8, .int y8), (10, .int y10), (13, .int y13), (15, .int y15)] → W p l e room_1 s m (#[Value.ref b]) below meth c H locs 185 5982 (lw_Z below #[Value.ref b] s) (F0 m 711 ls []) := by
    intro k42 hk42 qv kev bov wrv opv cs y7 y8 y10 y13 y15 h H locs hP hD hS ls hl
    unfold fL_law_b711 at h
    refine lv_iload hx hb dL_law_711 (lv_at hl 11 rfl) ?_
    refine lv_if_eq (tgt := 784) hx hb dL_law_713 (by decide) (fun c96 => ?_) (fun c96 => ?_)
    · have h := (if_pos c96).symm.trans h
      refine lv_goto (tgt := 1208) hx hb dL_law_784 (by decide) ?_
      exact kB1208 k42 hk42 qv kev bov wrv opv cs y7 y8 h _ _ hP hD hS ls (lv_sub hl [0, 1, 2, 3, 4, 5, 6, 7, 8] rfl)
    · have h := (if_neg c96).symm.trans h
      refine lv_aload_n hx hb dL_law_716 rfl (lv_at hl 3 rfl) ?_
      refine lv_iconst (v := 4) hx hb dL_law_717 (by decide) ?_
      refine lv_iload hx hb dL_law_718 (lv_at hl 9 rfl) ?_
      refine lv_imul hx hb dL_law_720 ?_
      refine lv_iconst (v := 2) hx hb dL_law_721 (by decide) ?_
      refine lv_iadd hx hb dL_law_722 ?_
      refine lv_dup2_11 hx hb dL_law_723 rfl rfl ?_
      obtain ⟨ni97, h⟩ := ifn h
      refine va_iald hx hb hK.1 hP 1 0 rfl rfl ni97 dL_law_724 ?_
      refine lv_iconst (v := 1) hx hb dL_law_725 (by decide) ?_
      refine lv_iadd hx hb dL_law_726 ?_
      obtain ⟨ni98, h⟩ := ifn h
      refine va_iast hx hb hK.1 hP hD hS 1 0 rfl rfl ni98 dL_law_727 (fun H locs hP hD hS => ?_)
      have hP : va_P (dC, dI) vwCl (((arrW cyI aq 4 qv) ++ (arrW cyI ak 24 (upd kev ((4 * y10) + 2).toNatClampNeg ((kev ((4 * y10) + 2).toNatClampNeg) + 1))) ++ (arrW cyI ab 12 bov) ++ (arrW cyI aw 64 wrv) ++ (larrW cyL ao 2 opv)) ++ mainC cyI cyO cyL ad had cs) H := hP
      have hD : va_D A (((arrW cyI aq 4 qv) ++ (arrW cyI ak 24 (upd kev ((4 * y10) + 2).toNatClampNeg ((kev ((4 * y10) + 2).toNatClampNeg) + 1))) ++ (arrW cyI ab 12 bov) ++ (arrW cyI aw 64 wrv) ++ (larrW cyL ao 2 opv)) ++ mainC cyI cyO cyL ad had cs) := hD
      refine lv_aload_n hx hb dL_law_728 rfl (lv_at hl 3 rfl) ?_
      refine lv_iconst (v := 4) hx hb dL_law_729 (by decide) ?_
      refine lv_iload hx hb dL_law_730 (lv_at hl 9 rfl) ?_
      refine lv_imul hx hb dL_law_732 ?_
      refine lv_iconst (v := 3) hx hb dL_law_733 (by decide) ?_
      refine lv_iadd hx hb dL_law_734 ?_
      refine lv_iconst (v := 0) hx hb dL_law_735 (by decide) ?_
      obtain ⟨ni99, h⟩ := ifn h
      refine va_iast hx hb hK.1 hP hD hS 1 0 rfl rfl ni99 dL_law_736 (fun H locs hP hD hS => ?_)
      have hP : va_P (dC, dI) vwCl (((arrW cyI aq 4 qv) ++ (arrW cyI ak 24 (upd (upd kev ((4 * y10) + 2).toNatClampNeg ((kev ((4 * y10) + 2).toNatClampNeg) + 1)) ((4 * y10) + 3).toNatClampNeg 0)) ++ (arrW cyI ab 12 bov) ++ (arrW cyI aw 64 wrv) ++ (larrW cyL ao 2 opv)) ++ mainC cyI cyO cyL ad had cs) H := hP
      have hD : va_D A (((arrW cyI aq 4 qv) ++ (arrW cyI ak 24 (upd (upd kev ((4 * y10) + 2).toNatClampNeg ((kev ((4 * y10) + 2).toNatClampNeg) + 1)) ((4 * y10) + 3).toNatClampNeg 0)) ++ (arrW cyI ab 12 bov) ++ (arrW cyI aw 64 wrv) ++ (larrW cyL ao 2 opv)) ++ mainC cyI cyO cyL ad had cs) := hD
      refine lv_iload hx hb dL_law_737 (lv_at hl 9 rfl) ?_
      refine lv_aload_n hx hb dL_law_739 rfl (lv_at hl 2 rfl) ?_
      refine lv_aload_n hx hb dL_law_740 rfl (lv_at hl 3 rfl) ?_
      refine lv_aload hx hb dL_law_741 (lv_at hl 4 rfl) ?_
      refine lv_aload hx hb dL_law_743 (lv_at hl 5 rfl) ?_
      obtain ⟨q100, e101, h⟩ := ob h
      refine fr_vK (L1 := ((arrW cyI aq 4 qv) ++ (arrW cyI ak 24 (upd (upd kev ((4 * y10) + 2).toNatClampNeg ((kev ((4 * y10) + 2).toNatClampNeg) + 1)) ((4 * y10) + 3).toNatClampNeg 0)) ++ (arrW cyI ab 12 bov) ++ (arrW cyI aw 64 wrv) ++ (larrW cyL ao 2 opv))) (M := ((arrW cyI aq 4 qv) ++ (arrW cyI ak 24 (upd (upd kev ((4 * y10) + 2).toNatClampNeg ((kev ((4 * y10) + 2).toNatClampNeg) + 1)) ((4 * y10) + 3).toNatClampNeg 0)) ++ (arrW cyI ab 12 bov) ++ (arrW cyI aw 64 wrv))) (M' := ((arrW cyI aq 4 qv) ++ (arrW cyI ak 24 (upd (upd kev ((4 * y10) + 2).toNatClampNeg ((kev ((4 * y10) + 2).toNatClampNeg) + 1)) ((4 * y10) + 3).toNatClampNeg 0)) ++ (arrW cyI ab 12 bov) ++ (arrW cyI aw 64 q100))) (L2 := ((arrW cyI aq 4 qv) ++ (arrW cyI ak 24 (upd (upd kev ((4 * y10) + 2).toNatClampNeg ((kev ((4 * y10) + 2).toNatClampNeg) + 1)) ((4 * y10) + 3).toNatClampNeg 0)) ++ (arrW cyI ab 12 bov) ++ (arrW cyI aw 64 q100) ++ (larrW cyL ao 2 opv))) (va_runS (As := [.int y10, .ref aq, .ref ak, .ref ab, .ref aw]) (rest := []) ⟨hx, hb, hml, hown, hts⟩ (mL_burn l dC dI cyI cyO cyL aq ak ab aw qv (upd (upd kev ((4 * y10) + 2).toNatClampNeg ((kev ((4 * y10) + 2).toNatClampNeg) + 1)) ((4 * y10) + 3).toNatClampNeg 0) bov wrv y10 _ q100 e101) (va_cwS 5 hts (gSL ml_L_32 st_L_burn in_L co_L_burn) rfl rfl rfl (by decide +kernel) ⟨Nat.le_of_ble_eq_true rfl, Nat.le_of_ble_eq_true rfl⟩) (cP_S hK hP hD [0, 1, 2, 3] rfl rfl) rfl rfl hl.1 rfl (lv_room (Nat.le_of_ble_eq_true rfl)) dL_law_745 ⟨Nat.le_of_ble_eq_true rfl, Nat.le_of_ble_eq_true rfl⟩) hP hD hS hA [0, 1, 2, 3] rfl [(true, 0), (true, 1), (true, 2), (true, 3), (false, 4)] rfl rfl rfl (fun H locs hP hD hS => ?_)
      refine lv_iload hx hb dL_law_748 (lv_at hl 10 rfl) ?_
      refine lv_if_lt (tgt := 772) hx hb dL_law_750 (by decide) (fun c102 => ?_) (fun c102 => ?_)
      · have h := (if_pos c102).symm.trans h
        refine lv_iload hx hb dL_law_772 (lv_at hl 9 rfl) ?_
        refine lv_aload_n hx hb dL_law_774 rfl (lv_at hl 2 rfl) ?_
        refine lv_aload_n hx hb dL_law_775 rfl (lv_at hl 3 rfl) ?_
        refine lv_aload hx hb dL_law_776 (lv_at hl 4 rfl) ?_
        refine lv_aload hx hb dL_law_778 (lv_at hl 5 rfl) ?_
        obtain ⟨q103, e104, h⟩ := ob h
        refine fr_iK (L1 := ((arrW cyI aq 4 qv) ++ (arrW cyI ak 24 (upd (upd kev ((4 * y10) + 2).toNatClampNeg ((kev ((4 * y10) + 2).toNatClampNeg) + 1)) ((4 * y10) + 3).toNatClampNeg 0)) ++ (arrW cyI ab 12 bov) ++ (arrW cyI aw 64 q100) ++ (larrW cyL ao 2 opv))) (M := ((arrW cyI aq 4 qv) ++ (arrW cyI ak 24 (upd (upd kev ((4 * y10) + 2).toNatClampNeg ((kev ((4 * y10) + 2).toNatClampNeg) + 1)) ((4 * y10) + 3).toNatClampNeg 0)) ++ (arrW cyI ab 12 bov) ++ (arrW cyI aw 64 q100))) (M' := ((arrW cyI aq 4 q103.2.1) ++ (arrW cyI ak 24 q103.2.2.1) ++ (arrW cyI ab 12 bov) ++ (arrW cyI aw 64 q103.2.2.2))) (L2 := ((arrW cyI aq 4 q103.2.1) ++ (arrW cyI ak 24 q103.2.2.1) ++ (arrW cyI ab 12 bov) ++ (arrW cyI aw 64 q103.2.2.2) ++ (larrW cyL ao 2 opv))) (va_runS (As := [.int y10, .ref aq, .ref ak, .ref ab, .ref aw]) (rest := []) ⟨hx, hb, hml, hown, hts⟩ (mL_wrapAll l dC dI cyI cyO cyL aq ak ab aw qv (upd (upd kev ((4 * y10) + 2).toNatClampNeg ((kev ((4 * y10) + 2).toNatClampNeg) + 1)) ((4 * y10) + 3).toNatClampNeg 0) bov q100 y10 _ q103 e104) (va_cwS 5 hts (gSL ml_L_36 st_L_wrapAll in_L co_L_wrapAll) rfl rfl rfl (by decide +kernel) ⟨Nat.le_of_ble_eq_true rfl, Nat.le_of_ble_eq_true rfl⟩) (cP_S hK hP hD [0, 1, 2, 3] rfl rfl) rfl rfl hl.1 rfl (lv_room (Nat.le_of_ble_eq_true rfl)) dL_law_780 ⟨Nat.le_of_ble_eq_true rfl, Nat.le_of_ble_eq_true rfl⟩) hP hD hS hA [0, 1, 2, 3] rfl [(true, 0), (true, 1), (true, 2), (true, 3), (false, 4)] rfl rfl rfl (fun H locs hP hD hS => ?_)
        refine lv_pop hx hb dL_law_783 rfl ?_
        refine lv_goto (tgt := 1208) hx hb dL_law_784 (by decide) ?_
        exact kB1208 k42 hk42 q103.2.1 q103.2.2.1 bov q103.2.2.2 opv cs y7 y8 h _ _ hP hD hS ls (lv_sub hl [0, 1, 2, 3, 4, 5, 6, 7, 8] rfl)
      · have h := (if_neg c102).symm.trans h
        refine lv_iload hx hb dL_law_753 (lv_at hl 9 rfl) ?_
        refine lv_aload_n hx hb dL_law_755 rfl (lv_at hl 3 rfl) ?_
        refine lv_iconst (v := 4) hx hb dL_law_756 (by decide) ?_
        refine lv_iload hx hb dL_law_757 (lv_at hl 9 rfl) ?_
        refine lv_imul hx hb dL_law_759 ?_
        refine lv_iconst (v := 2) hx hb dL_law_760 (by decide) ?_
        refine lv_iadd hx hb dL_law_761 ?_
        obtain ⟨ni105, h⟩ := ifn h
        refine va_iald hx hb hK.1 hP 1 0 rfl rfl ni105 dL_law_762 ?_
        refine lv_iload hx hb dL_law_763 (lv_at hl 10 rfl) ?_
        refine lv_aload_n hx hb dL_law_765 rfl (lv_at hl 2 rfl) ?_
        refine lv_aload_n hx hb dL_law_766 rfl (lv_at hl 3 rfl) ?_
        refine lv_aload hx hb dL_law_767 (lv_at hl 5 rfl) ?_
        obtain ⟨q106, e107, h⟩ := ob h
        refine fr_vK (L1 := ((arrW cyI aq 4 qv) ++ (arrW cyI ak 24 (upd (upd kev ((4 * y10) + 2).toNatClampNeg ((kev ((4 * y10) + 2).toNatClampNeg) + 1)) ((4 * y10) + 3).toNatClampNeg 0)) ++ (arrW cyI ab 12 bov) ++ (arrW cyI aw 64 q100) ++ (larrW cyL ao 2 opv))) (M := ((arrW cyI aq 4 qv) ++ (arrW cyI ak 24 (upd (upd kev ((4 * y10) + 2).toNatClampNeg ((kev ((4 * y10) + 2).toNatClampNeg) + 1)) ((4 * y10) + 3).toNatClampNeg 0)) ++ (arrW cyI aw 64 q100))) (M' := ((arrW cyI aq 4 q106.1) ++ (arrW cyI ak 24 q106.2.1) ++ (arrW cyI aw 64 q106.2.2))) (L2 := ((arrW cyI aq 4 q106.1) ++ (arrW cyI ak 24 q106.2.1) ++ (arrW cyI ab 12 bov) ++ (arrW cyI aw 64 q106.2.2) ++ (larrW cyL ao 2 opv))) (va_runS (As := [.int y10, .int ((upd (upd kev ((4 * y10) + 2).toNatClampNeg ((kev ((4 * y10) + 2).toNatClampNeg) + 1)) ((4 * y10) + 3).toNatClampNeg 0) ((4 * y10) + 2).toNatClampNeg), .int y13, .ref aq, .ref ak, .ref aw]) (rest := []) ⟨hx, hb, hml, hown, hts⟩ (mL_wrap l dC dI cyI cyO cyL aq ak aw qv (upd (upd kev ((4 * y10) + 2).toNatClampNeg ((kev ((4 * y10) + 2).toNatClampNeg) + 1)) ((4 * y10) + 3).toNatClampNeg 0) q100 y10 ((upd (upd kev ((4 * y10) + 2).toNatClampNeg ((kev ((4 * y10) + 2).toNatClampNeg) + 1)) ((4 * y10) + 3).toNatClampNeg 0) ((4 * y10) + 2).toNatClampNeg) y13 _ q106 e107) (va_cwS 6 hts (gSL ml_L_17 st_L_wrap in_L co_L_wrap) rfl rfl rfl (by decide +kernel) ⟨Nat.le_of_ble_eq_true rfl, Nat.le_of_ble_eq_true rfl⟩) (cP_S hK hP hD [0, 1, 3] rfl rfl) rfl rfl hl.1 rfl (lv_room (Nat.le_of_ble_eq_true rfl)) dL_law_769 ⟨Nat.le_of_ble_eq_true rfl, Nat.le_of_ble_eq_true rfl⟩) hP hD hS hA [0, 1, 3] rfl [(true, 0), (true, 1), (false, 2), (true, 2), (false, 4)] rfl rfl rfl (fun H locs hP hD hS => ?_)
        refine lv_iload hx hb dL_law_772 (lv_at hl 9 rfl) ?_
        refine lv_aload_n hx hb dL_law_774 rfl (lv_at hl 2 rfl) ?_
        refine lv_aload_n hx hb dL_law_775 rfl (lv_at hl 3 rfl) ?_
        refine lv_aload hx hb dL_law_776 (lv_at hl 4 rfl) ?_
        refine lv_aload hx hb dL_law_778 (lv_at hl 5 rfl) ?_
        obtain ⟨q108, e109, h⟩ := ob h
        refine fr_iK (L1 := ((arrW cyI aq 4 q106.1) ++ (arrW cyI ak 24 q106.2.1) ++ (arrW cyI ab 12 bov) ++ (arrW cyI aw 64 q106.2.2) ++ (larrW cyL ao 2 opv))) (M := ((arrW cyI aq 4 q106.1) ++ (arrW cyI ak 24 q106.2.1) ++ (arrW cyI ab 12 bov) ++ (arrW cyI aw 64 q106.2.2))) (M' := ((arrW cyI aq 4 q108.2.1) ++ (arrW cyI ak 24 q108.2.2.1) ++ (arrW cyI ab 12 bov) ++ (arrW cyI aw 64 q108.2.2.2))) (L2 := ((arrW cyI aq 4 q108.2.1) ++ (arrW cyI ak 24 q108.2.2.1) ++ (arrW cyI ab 12 bov) ++ (arrW cyI aw 64 q108.2.2.2) ++ (larrW cyL ao 2 opv))) (va_runS (As := [.int y10, .ref aq, .ref ak, .ref ab, .ref aw]) (rest := []) ⟨hx, hb, hml, hown, hts⟩ (mL_wrapAll l dC dI cyI cyO cyL aq ak ab aw q106.1 q106.2.1 bov q106.2.2 y10 _ q108 e109) (va_cwS 5 hts (gSL ml_L_36 st_L_wrapAll in_L co_L_wrapAll) rfl rfl rfl (by decide +kernel) ⟨Nat.le_of_ble_eq_true rfl, Nat.le_of_ble_eq_true rfl⟩) (cP_S hK hP hD [0, 1, 2, 3] rfl rfl) rfl rfl hl.1 rfl (lv_room (Nat.le_of_ble_eq_true rfl)) dL_law_780 ⟨Nat.le_of_ble_eq_true rfl, Nat.le_of_ble_eq_true rfl⟩) hP hD hS hA [0, 1, 2, 3] rfl [(true, 0), (true, 1), (true, 2), (true, 3), (false, 4)] rfl rfl rfl (fun H locs hP hD hS => ?_)
        refine lv_pop hx hb dL_law_783 rfl ?_
        refine lv_goto (tgt := 1208) hx hb dL_law_784 (by decide) ?_
        exact kB1208 k42 hk42 q108.2.1 q108.2.2.1 bov q108.2.2.2 opv cs y7 y8 h _ _ hP hD hS ls (lv_sub hl [0, 1, 2, 3, 4, 5, 6, 7, 8] rfl)
  have kB706 : ∀ (k42 : (Nat → Int32) → (Nat → Int32) → (Nat → Int32) → (Nat → Int32) → (Nat → Int64) → CS → Int32 → Option (Int32)) (hk42 : ∀ (qv : Nat → Int32) (kev : Nat → Int32) (bov : Nat → Int32) (wrv : Nat → Int32) (opv : Nat → Int64) (cs : CS) (y7 : Int32), k42 qv kev bov wrv opv cs y7 = some 1 → ∀ (H : Heap) (locs : List Loc), va_P (dC, dI) vwCl (((arrW cyI aq 4 qv) ++ (arrW cyI ak 24 kev) ++ (arrW cyI ab 12 bov) ++ (arrW cyI aw 64 wrv) ++ (larrW cyL ao 2 opv)) ++ mainC cyI cyO cyL ad had cs) H → va_D A (((arrW cyI aq 4 qv) ++ (arrW cyI ak 24 kev) ++ (arrW cyI ab 12 bov) ++ (arrW cyI aw 64 wrv) ++ (larrW cyL ao 2 opv)) ++ mainC cyI cyO cyL ad had cs) → va_S A s.heap H locs → ∀ ls : Array Slot, lv_has ls 21 [(0, .ref b), (1, .ref (ad 0)), (2, .ref aq), (3, .ref ak), (4, .ref ab), (5, .ref aw), (6, .ref ao), (7, .int y7)] → W p l e room_1 s m (#[Value.ref b]) below meth c H locs 185 5982 (lw_Z below #[Value.ref b] s) (F0 m 42 ls [])) (qv : Nat → Int32) (kev : Nat → Int32) (bov : Nat → Int32) (wrv : Nat → Int32) (opv : Nat → Int64) (cs : CS) (y7 : Int32) (y8 : Int32) (y10 : Int32) (y13 : Int32) (y15 : Int32) (z0 : Int32) (z1 : Int32), fL_law_b706 L xs k42 qv kev bov wrv opv cs y7 y8 y10 y13 y15 z0 z1 = some 1 → ∀ (H : Heap) (locs : List Loc), va_P (dC, dI) vwCl (((arrW cyI aq 4 qv) ++ (arrW cyI ak 24 kev) ++ (arrW cyI ab 12 bov) ++ (arrW cyI aw 64 wrv) ++ (larrW cyL ao 2 opv)) ++ mainC cyI cyO cyL ad had cs) H → va_D A (((arrW cyI aq 4 qv) ++ (arrW cyI ak 24 kev) ++ (arrW cyI ab 12 bov) ++ (arrW cyI aw 64 wrv) ++ (larrW cyL ao 2 opv)) ++ mainC cyI cyO cyL ad had cs) → va_S A s.heap H locs → ∀ ls : Array Slot, lv_has ls 21 [(0, .ref b), (1, .ref (ad 0)), (2, .ref aq), (3, .ref ak), (4, .ref ab), (5, .ref aw), (6, .ref ao), (7, .int y7), (8, .int y8), (10, .int y10), (13, .int y13), (15, .int y15)] → W p l e room_1 s m (#[Value.ref b]) below meth c H locs 185 5982 (lw_Z below #[Value.ref b] s) (F0 m 706 ls [.int z1, .int z0]) := by
    intro k42 hk42 qv kev bov wrv opv cs y7 y8 y10 y13 y15 z0 z1 h H locs hP hD hS ls hl
    unfold fL_law_b706 at h
    refine lv_icmp_eq (tgt := 711) hx hb dL_law_706 (by decide) (fun c110 => ?_) (fun c110 => ?_)
    · have h := (if_pos c110).symm.trans h
      exact kB711 k42 hk42 qv kev bov wrv opv cs y7 y8 y10 y13 y15 h _ _ hP hD hS ls (lv_sub hl [0, 1, 2, 3, 4, 5, 6, 7, 8, 9, 10, 11] rfl)
    · have h := (if_neg c110).symm.trans h
      refine lv_iconst (v := 0) hx hb dL_law_709 (by decide) ?_
      exact absurd (Option.some.inj h) (by decide)
  have kB677 : ∀ (k42 : (Nat → Int32) → (Nat → Int32) → (Nat → Int32) → (Nat → Int32) → (Nat → Int64) → CS → Int32 → Option (Int32)) (hk42 : ∀ (qv : Nat → Int32) (kev : Nat → Int32) (bov : Nat → Int32) (wrv : Nat → Int32) (opv : Nat → Int64) (cs : CS) (y7 : Int32), k42 qv kev bov wrv opv cs y7 = some 1 → ∀ (H : Heap) (locs : List Loc), va_P (dC, dI) vwCl (((arrW cyI aq 4 qv) ++ (arrW cyI ak 24 kev) ++ (arrW cyI ab 12 bov) ++ (arrW cyI aw 64 wrv) ++ (larrW cyL ao 2 opv)) ++ mainC cyI cyO cyL ad had cs) H → va_D A (((arrW cyI aq 4 qv) ++ (arrW cyI ak 24 kev) ++ (arrW cyI ab 12 bov) ++ (arrW cyI aw 64 wrv) ++ (larrW cyL ao 2 opv)) ++ mainC cyI cyO cyL ad had cs) → va_S A s.heap H locs → ∀ ls : Array Slot, lv_has ls 21 [(0, .ref b), (1, .ref (ad 0)), (2, .ref aq), (3, .ref ak), (4, .ref ab), (5, .ref aw), (6, .ref ao), (7, .int y7)] → W p l e room_1 s m (#[Value.ref b]) below meth c H locs 185 5982 (lw_Z below #[Value.ref b] s) (F0 m 42 ls [])) (qv : Nat → Int32) (kev : Nat → Int32) (bov : Nat → Int32) (wrv : Nat → Int32) (opv : Nat → Int64) (cs : CS) (y7 : Int32) (y8 : Int32) (y10 : Int32) (y13 : Int32) (y14 : Int32) (y15 : Int32), fL_law_b677 L xs k42 qv kev bov wrv opv cs y7 y8 y10 y13 y14 y15 = some 1 → ∀ (H : Heap) (locs : List Loc), va_P (dC, dI) vwCl (((arrW cyI aq 4 qv) ++ (arrW cyI ak 24 kev) ++ (arrW cyI ab 12 bov) ++ (arrW cyI aw 64 wrv) ++ (larrW cyL ao 2 opv)) ++ mainC cyI cyO cyL ad had cs) H → va_D A (((arrW cyI aq 4 qv) ++ (arrW cyI ak 24 kev) ++ (arrW cyI ab 12 bov) ++ (arrW cyI aw 64 wrv) ++ (larrW cyL ao 2 opv)) ++ mainC cyI cyO cyL ad had cs) → va_S A s.heap H locs → ∀ ls : Array Slot, lv_has ls 21 [(0, .ref b), (1, .ref (ad 0)), (2, .ref aq), (3, .ref ak), (4, .ref ab), (5, .ref aw), (6, .ref ao), (7, .int y7), (8, .int y8), (10, .int y10), (13, .int y13), (14, .int y14), (15, .int y15)] → W p l e room_1 s m (#[Value.ref b]) below meth c H locs 185 5982 (lw_Z below #[Value.ref b] s) (F0 m 677 ls []) := by
    intro k42 hk42 qv kev bov wrv opv cs y7 y8 y10 y13 y14 y15 h H locs hP hD hS ls hl
    unfold fL_law_b677 at h
    refine lv_aload_n hx hb dL_law_677 rfl (lv_at hl 1 rfl) ?_
    refine lv_iload hx hb dL_law_678 (lv_at hl 9 rfl) ?_
    obtain ⟨q111, e112, h⟩ := ob h
    refine fr_iG (M := mainC cyI cyO cyL ad had cs) (M' := mainC cyI cyO cyL ad had q111.2) (L' := (((arrW cyI aq 4 qv) ++ (arrW cyI ak 24 kev) ++ (arrW cyI ab 12 bov) ++ (arrW cyI aw 64 wrv) ++ (larrW cyL ao 2 opv)) ++ mainC cyI cyO cyL ad had q111.2)) (F := ((arrW cyI aq 4 qv) ++ (arrW cyI ak 24 kev) ++ (arrW cyI ab 12 bov) ++ (arrW cyI aw 64 wrv) ++ (larrW cyL ao 2 opv))) (va_runV (As := [.int y10]) (rest := []) ⟨hx, hb, hml, hown, hts⟩ (uX7_renew l dC dI cyI cyO cyL ad had cs q111.2 y10 q111.1 e112 _) (cwV 1 hts (gVL ml_L_105 im_X7_renew se_X7_renew in_X7 co_X7_renew) rfl rfl rfl (by decide +kernel) ⟨Nat.le_of_ble_eq_true rfl, Nat.le_of_ble_eq_true rfl⟩) (cP_VG hK hP hD List.perm_append_comm 0 rfl rfl) rfl rfl hl.1 rfl (lv_room (Nat.le_of_ble_eq_true rfl)) dL_law_680 ⟨Nat.le_of_ble_eq_true rfl, Nat.le_of_ble_eq_true rfl⟩) hP hD hS hA List.perm_append_comm List.perm_append_comm mainC_ads (fun H locs hP hD hS => ?_)
    refine lv_iload hx hb dL_law_683 (lv_at hl 12 rfl) ?_
    refine lv_if_eq (tgt := 704) hx hb dL_law_685 (by decide) (fun c113 => ?_) (fun c113 => ?_)
    · have h := (if_pos c113).symm.trans h
      refine lv_bipush (v := (-5)) hx hb dL_law_704 (by decide) ?_
      exact kB706 k42 hk42 qv kev bov wrv opv q111.2 y7 y8 y10 y13 y15 q111.1 (-5) h _ _ hP hD hS ls (lv_sub hl [0, 1, 2, 3, 4, 5, 6, 7, 8, 9, 10, 12] rfl)
    · have h := (if_neg c113).symm.trans h
      refine lv_iload hx hb dL_law_688 (lv_at hl 11 rfl) ?_
      refine lv_iload hx hb dL_law_690 (lv_at hl 10 rfl) ?_
      refine lv_if_ge (tgt := 699) hx hb dL_law_692 (by decide) (fun c114 => ?_) (fun c114 => ?_)
      · have h := (if_pos c114).symm.trans h
        refine lv_iconst (v := 1) hx hb dL_law_699 (by decide) ?_
        refine lv_iadd hx hb dL_law_700 ?_
        refine lv_goto (tgt := 706) hx hb dL_law_701 (by decide) ?_
        exact kB706 k42 hk42 qv kev bov wrv opv q111.2 y7 y8 y10 y13 y15 q111.1 (y14 + 1) h _ _ hP hD hS ls (lv_sub hl [0, 1, 2, 3, 4, 5, 6, 7, 8, 9, 10, 12] rfl)
      · have h := (if_neg c114).symm.trans h
        refine lv_iconst (v := 0) hx hb dL_law_695 (by decide) ?_
        refine lv_goto (tgt := 700) hx hb dL_law_696 (by decide) ?_
        refine lv_iadd hx hb dL_law_700 ?_
        refine lv_goto (tgt := 706) hx hb dL_law_701 (by decide) ?_
        exact kB706 k42 hk42 qv kev bov wrv opv q111.2 y7 y8 y10 y13 y15 q111.1 (y14 + 0) h _ _ hP hD hS ls (lv_sub hl [0, 1, 2, 3, 4, 5, 6, 7, 8, 9, 10, 12] rfl)
  have kB643 : ∀ (k42 : (Nat → Int32) → (Nat → Int32) → (Nat → Int32) → (Nat → Int32) → (Nat → Int64) → CS → Int32 → Option (Int32)) (hk42 : ∀ (qv : Nat → Int32) (kev : Nat → Int32) (bov : Nat → Int32) (wrv : Nat → Int32) (opv : Nat → Int64) (cs : CS) (y7 : Int32), k42 qv kev bov wrv opv cs y7 = some 1 → ∀ (H : Heap) (locs : List Loc), va_P (dC, dI) vwCl (((arrW cyI aq 4 qv) ++ (arrW cyI ak 24 kev) ++ (arrW cyI ab 12 bov) ++ (arrW cyI aw 64 wrv) ++ (larrW cyL ao 2 opv)) ++ mainC cyI cyO cyL ad had cs) H → va_D A (((arrW cyI aq 4 qv) ++ (arrW cyI ak 24 kev) ++ (arrW cyI ab 12 bov) ++ (arrW cyI aw 64 wrv) ++ (larrW cyL ao 2 opv)) ++ mainC cyI cyO cyL ad had cs) → va_S A s.heap H locs → ∀ ls : Array Slot, lv_has ls 21 [(0, .ref b), (1, .ref (ad 0)), (2, .ref aq), (3, .ref ak), (4, .ref ab), (5, .ref aw), (6, .ref ao), (7, .int y7)] → W p l e room_1 s m (#[Value.ref b]) below meth c H locs 185 5982 (lw_Z below #[Value.ref b] s) (F0 m 42 ls [])) (qv : Nat → Int32) (kev : Nat → Int32) (bov : Nat → Int32) (wrv : Nat → Int32) (opv : Nat → Int64) (cs : CS) (y7 : Int32) (y8 : Int32) (y10 : Int32) (y13 : Int32) (y14 : Int32), fL_law_b643 L xs k42 qv kev bov wrv opv cs y7 y8 y10 y13 y14 = some 1 → ∀ (H : Heap) (locs : List Loc), va_P (dC, dI) vwCl (((arrW cyI aq 4 qv) ++ (arrW cyI ak 24 kev) ++ (arrW cyI ab 12 bov) ++ (arrW cyI aw 64 wrv) ++ (larrW cyL ao 2 opv)) ++ mainC cyI cyO cyL ad had cs) H → va_D A (((arrW cyI aq 4 qv) ++ (arrW cyI ak 24 kev) ++ (arrW cyI ab 12 bov) ++ (arrW cyI aw 64 wrv) ++ (larrW cyL ao 2 opv)) ++ mainC cyI cyO cyL ad had cs) → va_S A s.heap H locs → ∀ ls : Array Slot, lv_has ls 21 [(0, .ref b), (1, .ref (ad 0)), (2, .ref aq), (3, .ref ak), (4, .ref ab), (5, .ref aw), (6, .ref ao), (7, .int y7), (8, .int y8), (10, .int y10), (13, .int y13), (14, .int y14)] → W p l e room_1 s m (#[Value.ref b]) below meth c H locs 185 5982 (lw_Z below #[Value.ref b] s) (F0 m 643 ls []) := by
    intro k42 hk42 qv kev bov wrv opv cs y7 y8 y10 y13 y14 h H locs hP hD hS ls hl
    unfold fL_law_b643 at h
    refine lv_iload hx hb dL_law_643 (lv_at hl 11 rfl) ?_
    refine lv_aload_n hx hb dL_law_645 rfl (lv_at hl 2 rfl) ?_
    refine lv_iconst (v := 0) hx hb dL_law_646 (by decide) ?_
    obtain ⟨ni115, h⟩ := ifn h
    refine va_iald hx hb hK.1 hP 0 0 rfl rfl ni115 dL_law_647 ?_
    refine lv_icmp_gt (tgt := 674) hx hb dL_law_648 (by decide) (fun c116 => ?_) (fun c116 => ?_)
    · have h := (if_pos c116).symm.trans h
      refine lv_iconst (v := 0) hx hb dL_law_674 (by decide) ?_
      refine lv_istore (lv' := [(15, .int 0), (0, .ref b), (1, .ref (ad 0)), (2, .ref aq), (3, .ref ak), (4, .ref ab), (5, .ref aw), (6, .ref ao), (7, .int y7), (8, .int y8), (10, .int y10), (13, .int y13), (14, .int y14)]) hx hb dL_law_675 hl (by decide) rfl (fun ls hl => ?_)
      exact kB677 k42 hk42 qv kev bov wrv opv cs y7 y8 y10 y13 y14 0 h _ _ hP hD hS ls (lv_sub hl [1, 2, 3, 4, 5, 6, 7, 8, 9, 10, 11, 12, 0] rfl)
    · have h := (if_neg c116).symm.trans h
      refine lv_iload hx hb dL_law_651 (lv_at hl 10 rfl) ?_
      refine lv_if_lt (tgt := 670) hx hb dL_law_653 (by decide) (fun c117 => ?_) (fun c117 => ?_)
      · have h := (if_pos c117).symm.trans h
        refine lv_iconst (v := 1) hx hb dL_law_670 (by decide) ?_
        refine lv_goto (tgt := 675) hx hb dL_law_671 (by decide) ?_
        refine lv_istore (lv' := [(15, .int 1), (0, .ref b), (1, .ref (ad 0)), (2, .ref aq), (3, .ref ak), (4, .ref ab), (5, .ref aw), (6, .ref ao), (7, .int y7), (8, .int y8), (10, .int y10), (13, .int y13), (14, .int y14)]) hx hb dL_law_675 hl (by decide) rfl (fun ls hl => ?_)
        exact kB677 k42 hk42 qv kev bov wrv opv cs y7 y8 y10 y13 y14 1 h _ _ hP hD hS ls (lv_sub hl [1, 2, 3, 4, 5, 6, 7, 8, 9, 10, 11, 12, 0] rfl)
      · have h := (if_neg c117).symm.trans h
        refine lv_aload_n hx hb dL_law_656 rfl (lv_at hl 3 rfl) ?_
        refine lv_iconst (v := 4) hx hb dL_law_657 (by decide) ?_
        refine lv_iload hx hb dL_law_658 (lv_at hl 10 rfl) ?_
        refine lv_imul hx hb dL_law_660 ?_
        refine lv_iconst (v := 3) hx hb dL_law_661 (by decide) ?_
        refine lv_iadd hx hb dL_law_662 ?_
        obtain ⟨ni118, h⟩ := ifn h
        refine va_iald hx hb hK.1 hP 1 0 rfl rfl ni118 dL_law_663 ?_
        refine lv_aload_n hx hb dL_law_664 rfl (lv_at hl 2 rfl) ?_
        refine lv_iconst (v := 0) hx hb dL_law_665 (by decide) ?_
        obtain ⟨ni119, h⟩ := ifn h
        refine va_iald hx hb hK.1 hP 0 0 rfl rfl ni119 dL_law_666 ?_
        refine lv_icmp_ge (tgt := 674) hx hb dL_law_667 (by decide) (fun c120 => ?_) (fun c120 => ?_)
        · have h := (if_pos c120).symm.trans h
          refine lv_iconst (v := 0) hx hb dL_law_674 (by decide) ?_
          refine lv_istore (lv' := [(15, .int 0), (0, .ref b), (1, .ref (ad 0)), (2, .ref aq), (3, .ref ak), (4, .ref ab), (5, .ref aw), (6, .ref ao), (7, .int y7), (8, .int y8), (10, .int y10), (13, .int y13), (14, .int y14)]) hx hb dL_law_675 hl (by decide) rfl (fun ls hl => ?_)
          exact kB677 k42 hk42 qv kev bov wrv opv cs y7 y8 y10 y13 y14 0 h _ _ hP hD hS ls (lv_sub hl [1, 2, 3, 4, 5, 6, 7, 8, 9, 10, 11, 12, 0] rfl)
        · have h := (if_neg c120).symm.trans h
          refine lv_iconst (v := 1) hx hb dL_law_670 (by decide) ?_
          refine lv_goto (tgt := 675) hx hb dL_law_671 (by decide) ?_
          refine lv_istore (lv' := [(15, .int 1), (0, .ref b), (1, .ref (ad 0)), (2, .ref aq), (3, .ref ak), (4, .ref ab), (5, .ref aw), (6, .ref ao), (7, .int y7), (8, .int y8), (10, .int y10), (13, .int y13), (14, .int y14)]) hx hb dL_law_675 hl (by decide) rfl (fun ls hl => ?_)
          exact kB677 k42 hk42 qv kev bov wrv opv cs y7 y8 y10 y13 y14 1 h _ _ hP hD hS ls (lv_sub hl [1, 2, 3, 4, 5, 6, 7, 8, 9, 10, 11, 12, 0] rfl)
  have kB624 : ∀ (k42 : (Nat → Int32) → (Nat → Int32) → (Nat → Int32) → (Nat → Int32) → (Nat → Int64) → CS → Int32 → Option (Int32)) (hk42 : ∀ (qv : Nat → Int32) (kev : Nat → Int32) (bov : Nat → Int32) (wrv : Nat → Int32) (opv : Nat → Int64) (cs : CS) (y7 : Int32), k42 qv kev bov wrv opv cs y7 = some 1 → ∀ (H : Heap) (locs : List Loc), va_P (dC, dI) vwCl (((arrW cyI aq 4 qv) ++ (arrW cyI ak 24 kev) ++ (arrW cyI ab 12 bov) ++ (arrW cyI aw 64 wrv) ++ (larrW cyL ao 2 opv)) ++ mainC cyI cyO cyL ad had cs) H → va_D A (((arrW cyI aq 4 qv) ++ (arrW cyI ak 24 kev) ++ (arrW cyI ab 12 bov) ++ (arrW cyI aw 64 wrv) ++ (larrW cyL ao 2 opv)) ++ mainC cyI cyO cyL ad had cs) → va_S A s.heap H locs → ∀ ls : Array Slot, lv_has ls 21 [(0, .ref b), (1, .ref (ad 0)), (2, .ref aq), (3, .ref ak), (4, .ref ab), (5, .ref aw), (6, .ref ao), (7, .int y7)] → W p l e room_1 s m (#[Value.ref b]) below meth c H locs 185 5982 (lw_Z below #[Value.ref b] s) (F0 m 42 ls [])) (qv : Nat → Int32) (kev : Nat → Int32) (bov : Nat → Int32) (wrv : Nat → Int32) (opv : Nat → Int64) (cs : CS) (y7 : Int32) (y8 : Int32) (y10 : Int32), fL_law_b624 L xs k42 qv kev bov wrv opv cs y7 y8 y10 = some 1 → ∀ (H : Heap) (locs : List Loc), va_P (dC, dI) vwCl (((arrW cyI aq 4 qv) ++ (arrW cyI ak 24 kev) ++ (arrW cyI ab 12 bov) ++ (arrW cyI aw 64 wrv) ++ (larrW cyL ao 2 opv)) ++ mainC cyI cyO cyL ad had cs) H → va_D A (((arrW cyI aq 4 qv) ++ (arrW cyI ak 24 kev) ++ (arrW cyI ab 12 bov) ++ (arrW cyI aw 64 wrv) ++ (larrW cyL ao 2 opv)) ++ mainC cyI cyO cyL ad had cs) → va_S A s.heap H locs → ∀ ls : Array Slot, lv_has ls 21 [(0, .ref b), (1, .ref (ad 0)), (2, .ref aq), (3, .ref ak), (4, .ref ab), (5, .ref aw), (6, .ref ao), (7, .int y7), (8, .int y8), (10, .int y10)] → W p l e room_1 s m (#[Value.ref b]) below meth c H locs 185 5982 (lw_Z below #[Value.ref b] s) (F0 m 624 ls []) := by
    intro k42 hk42 qv kev bov wrv opv cs y7 y8 y10 h H locs hP hD hS ls hl
    unfold fL_law_b624 at h
    refine lv_aload_n hx hb dL_law_624 rfl (lv_at hl 3 rfl) ?_
    refine lv_iconst (v := 4) hx hb dL_law_625 (by decide) ?_
    refine lv_iload hx hb dL_law_626 (lv_at hl 9 rfl) ?_
    refine lv_imul hx hb dL_law_628 ?_
    obtain ⟨ni121, h⟩ := ifn h
    refine va_iald hx hb hK.1 hP 1 0 rfl rfl ni121 dL_law_629 ?_
    refine lv_istore (lv' := [(13, .int (kev (4 * y10).toNatClampNeg)), (0, .ref b), (1, .ref (ad 0)), (2, .ref aq), (3, .ref ak), (4, .ref ab), (5, .ref aw), (6, .ref ao), (7, .int y7), (8, .int y8), (10, .int y10)]) hx hb dL_law_630 hl (by decide) rfl (fun ls hl => ?_)
    refine lv_iload hx hb dL_law_632 (lv_at hl 10 rfl) ?_
    refine lv_aload_n hx hb dL_law_634 rfl (lv_at hl 3 rfl) ?_
    refine lv_aload_n hx hb dL_law_635 rfl (lv_at hl 4 rfl) ?_
    refine lv_aload hx hb dL_law_636 (lv_at hl 5 rfl) ?_
    obtain ⟨q122, e123, h⟩ := ob h
    refine fr_ir (M := ((arrW cyI aq 4 qv) ++ (arrW cyI ak 24 kev) ++ (arrW cyI ab 12 bov))) (va_runS (As := [.int y10, .ref aq, .ref ak, .ref ab]) (rest := []) ⟨hx, hb, hml, hown, hts⟩ (mL_hang l dC dI cyI cyO cyL aq ak ab qv kev bov y10 _ q122 e123) (va_cwS 4 hts (gSL ml_L_101 st_L_hang in_L co_L_hang) rfl rfl rfl (by decide +kernel) ⟨Nat.le_of_ble_eq_true rfl, Nat.le_of_ble_eq_true rfl⟩) (cP_S hK hP hD [0, 1, 2] rfl rfl) rfl rfl hl.1 rfl (lv_room (Nat.le_of_ble_eq_true rfl)) dL_law_638 ⟨Nat.le_of_ble_eq_true rfl, Nat.le_of_ble_eq_true rfl⟩) hP hD hS hA [0, 1, 2] rfl (fun H locs hP hS => ?_)
    refine lv_istore (lv' := [(14, .int q122), (13, .int (kev (4 * y10).toNatClampNeg)), (0, .ref b), (1, .ref (ad 0)), (2, .ref aq), (3, .ref ak), (4, .ref ab), (5, .ref aw), (6, .ref ao), (7, .int y7), (8, .int y8), (10, .int y10)]) hx hb dL_law_641 hl (by decide) rfl (fun ls hl => ?_)
    exact kB643 k42 hk42 qv kev bov wrv opv cs y7 y8 y10 (kev (4 * y10).toNatClampNeg) q122 h _ _ hP hD hS ls (lv_sub hl [2, 3, 4, 5, 6, 7, 8, 9, 10, 11, 1, 0] rfl)
  have kB616 : ∀ (k42 : (Nat → Int32) → (Nat → Int32) → (Nat → Int32) → (Nat → Int32) → (Nat → Int64) → CS → Int32 → Option (Int32)) (hk42 : ∀ (qv : Nat → Int32) (kev : Nat → Int32) (bov : Nat → Int32) (wrv : Nat → Int32) (opv : Nat → Int64) (cs : CS) (y7 : Int32), k42 qv kev bov wrv opv cs y7 = some 1 → ∀ (H : Heap) (locs : List Loc), va_P (dC, dI) vwCl (((arrW cyI aq 4 qv) ++ (arrW cyI ak 24 kev) ++ (arrW cyI ab 12 bov) ++ (arrW cyI aw 64 wrv) ++ (larrW cyL ao 2 opv)) ++ mainC cyI cyO cyL ad had cs) H → va_D A (((arrW cyI aq 4 qv) ++ (arrW cyI ak 24 kev) ++ (arrW cyI ab 12 bov) ++ (arrW cyI aw 64 wrv) ++ (larrW cyL ao 2 opv)) ++ mainC cyI cyO cyL ad had cs) → va_S A s.heap H locs → ∀ ls : Array Slot, lv_has ls 21 [(0, .ref b), (1, .ref (ad 0)), (2, .ref aq), (3, .ref ak), (4, .ref ab), (5, .ref aw), (6, .ref ao), (7, .int y7)] → W p l e room_1 s m (#[Value.ref b]) below meth c H locs 185 5982 (lw_Z below #[Value.ref b] s) (F0 m 42 ls [])) (qv : Nat → Int32) (kev : Nat → Int32) (bov : Nat → Int32) (wrv : Nat → Int32) (opv : Nat → Int64) (cs : CS) (y7 : Int32) (y8 : Int32) (y10 : Int32) (y11 : Int32), fL_law_b616 L xs k42 qv kev bov wrv opv cs y7 y8 y10 y11 = some 1 → ∀ (H : Heap) (locs : List Loc), va_P (dC, dI) vwCl (((arrW cyI aq 4 qv) ++ (arrW cyI ak 24 kev) ++ (arrW cyI ab 12 bov) ++ (arrW cyI aw 64 wrv) ++ (larrW cyL ao 2 opv)) ++ mainC cyI cyO cyL ad had cs) H → va_D A (((arrW cyI aq 4 qv) ++ (arrW cyI ak 24 kev) ++ (arrW cyI ab 12 bov) ++ (arrW cyI aw 64 wrv) ++ (larrW cyL ao 2 opv)) ++ mainC cyI cyO cyL ad had cs) → va_S A s.heap H locs → ∀ ls : Array Slot, lv_has ls 21 [(0, .ref b), (1, .ref (ad 0)), (2, .ref aq), (3, .ref ak), (4, .ref ab), (5, .ref aw), (6, .ref ao), (7, .int y7), (8, .int y8), (10, .int y10), (11, .int y11)] → W p l e room_1 s m (#[Value.ref b]) below meth c H locs 185 5982 (lw_Z below #[Value.ref b] s) (F0 m 616 ls []) := by
    intro k42 hk42 qv kev bov wrv opv cs y7 y8 y10 y11 h H locs hP hD hS ls hl
    unfold fL_law_b616 at h
    refine lv_iload hx hb dL_law_616 (lv_at hl 10 rfl) ?_
    refine lv_if_ne (tgt := 624) hx hb dL_law_618 (by decide) (fun c124 => ?_) (fun c124 => ?_)
    · have h := (if_neg c124).symm.trans h
      exact kB624 k42 hk42 qv kev bov wrv opv cs y7 y8 y10 h _ _ hP hD hS ls (lv_sub hl [0, 1, 2, 3, 4, 5, 6, 7, 8, 9] rfl)
    · have h := (if_pos c124).symm.trans h
      refine lv_goto (tgt := 1229) hx hb dL_law_621 (by decide) ?_
      exact kB1229 k42 hk42 qv kev bov wrv opv cs y7 h _ _ hP hD hS ls (lv_sub hl [0, 1, 2, 3, 4, 5, 6, 7] rfl)
  have kB609 : ∀ (k42 : (Nat → Int32) → (Nat → Int32) → (Nat → Int32) → (Nat → Int32) → (Nat → Int64) → CS → Int32 → Option (Int32)) (hk42 : ∀ (qv : Nat → Int32) (kev : Nat → Int32) (bov : Nat → Int32) (wrv : Nat → Int32) (opv : Nat → Int64) (cs : CS) (y7 : Int32), k42 qv kev bov wrv opv cs y7 = some 1 → ∀ (H : Heap) (locs : List Loc), va_P (dC, dI) vwCl (((arrW cyI aq 4 qv) ++ (arrW cyI ak 24 kev) ++ (arrW cyI ab 12 bov) ++ (arrW cyI aw 64 wrv) ++ (larrW cyL ao 2 opv)) ++ mainC cyI cyO cyL ad had cs) H → va_D A (((arrW cyI aq 4 qv) ++ (arrW cyI ak 24 kev) ++ (arrW cyI ab 12 bov) ++ (arrW cyI aw 64 wrv) ++ (larrW cyL ao 2 opv)) ++ mainC cyI cyO cyL ad had cs) → va_S A s.heap H locs → ∀ ls : Array Slot, lv_has ls 21 [(0, .ref b), (1, .ref (ad 0)), (2, .ref aq), (3, .ref ak), (4, .ref ab), (5, .ref aw), (6, .ref ao), (7, .int y7)] → W p l e room_1 s m (#[Value.ref b]) below meth c H locs 185 5982 (lw_Z below #[Value.ref b] s) (F0 m 42 ls [])) (qv : Nat → Int32) (kev : Nat → Int32) (bov : Nat → Int32) (wrv : Nat → Int32) (opv : Nat → Int64) (cs : CS) (y7 : Int32) (y8 : Int32) (y9 : Int32) (y10 : Int32) (y11 : Int32), fL_law_b609 L xs k42 qv kev bov wrv opv cs y7 y8 y9 y10 y11 = some 1 → ∀ (H : Heap) (locs : List Loc), va_P (dC, dI) vwCl (((arrW cyI aq 4 qv) ++ (arrW cyI ak 24 kev) ++ (arrW cyI ab 12 bov) ++ (arrW cyI aw 64 wrv) ++ (larrW cyL ao 2 opv)) ++ mainC cyI cyO cyL ad had cs) H → va_D A (((arrW cyI aq 4 qv) ++ (arrW cyI ak 24 kev) ++ (arrW cyI ab 12 bov) ++ (arrW cyI aw 64 wrv) ++ (larrW cyL ao 2 opv)) ++ mainC cyI cyO cyL ad had cs) → va_S A s.heap H locs → ∀ ls : Array Slot, lv_has ls 21 [(0, .ref b), (1, .ref (ad 0)), (2, .ref aq), (3, .ref ak), (4, .ref ab), (5, .ref aw), (6, .ref ao), (7, .int y7), (8, .int y8), (9, .int y9), (10, .int y10), (11, .int y11)] → W p l e room_1 s m (#[Value.ref b]) below meth c H locs 185 5982 (lw_Z below #[Value.ref b] s) (F0 m 609 ls []) := by
    intro k42 hk42 qv kev bov wrv opv cs y7 y8 y9 y10 y11 h H locs hP hD hS ls hl
    unfold fL_law_b609 at h
    refine lv_iload hx hb dL_law_609 (lv_at hl 9 rfl) ?_
    refine lv_bipush (v := 6) hx hb dL_law_611 (by decide) ?_
    refine lv_icmp_ne (tgt := 787) hx hb dL_law_613 (by decide) (fun c125 => ?_) (fun c125 => ?_)
    · have h := (if_neg c125).symm.trans h
      refine lv_iload hx hb dL_law_787 (lv_at hl 9 rfl) ?_
      refine lv_bipush (v := 7) hx hb dL_law_789 (by decide) ?_
      refine lv_icmp_ne (tgt := 829) hx hb dL_law_791 (by decide) (fun c126 => ?_) (fun c126 => ?_)
      · have h := (if_neg c126).symm.trans h
        exact kB829 k42 hk42 qv kev bov wrv opv cs y7 y8 y9 y10 y11 h _ _ hP hD hS ls (lv_sub hl [0, 1, 2, 3, 4, 5, 6, 7, 8, 9, 10, 11] rfl)
      · have h := (if_pos c126).symm.trans h
        exact kB794 k42 hk42 qv kev bov wrv opv cs y7 y8 h _ _ hP hD hS ls (lv_sub hl [0, 1, 2, 3, 4, 5, 6, 7, 8] rfl)
    · have h := (if_pos c125).symm.trans h
      exact kB616 k42 hk42 qv kev bov wrv opv cs y7 y8 y10 y11 h _ _ hP hD hS ls (lv_sub hl [0, 1, 2, 3, 4, 5, 6, 7, 8, 10, 11] rfl)
  have kB580 : ∀ (k42 : (Nat → Int32) → (Nat → Int32) → (Nat → Int32) → (Nat → Int32) → (Nat → Int64) → CS → Int32 → Option (Int32)) (hk42 : ∀ (qv : Nat → Int32) (kev : Nat → Int32) (bov : Nat → Int32) (wrv : Nat → Int32) (opv : Nat → Int64) (cs : CS) (y7 : Int32), k42 qv kev bov wrv opv cs y7 = some 1 → ∀ (H : Heap) (locs : List Loc), va_P (dC, dI) vwCl (((arrW cyI aq 4 qv) ++ (arrW cyI ak 24 kev) ++ (arrW cyI ab 12 bov) ++ (arrW cyI aw 64 wrv) ++ (larrW cyL ao 2 opv)) ++ mainC cyI cyO cyL ad had cs) H → va_D A (((arrW cyI aq 4 qv) ++ (arrW cyI ak 24 kev) ++ (arrW cyI ab 12 bov) ++ (arrW cyI aw 64 wrv) ++ (larrW cyL ao 2 opv)) ++ mainC cyI cyO cyL ad had cs) → va_S A s.heap H locs → ∀ ls : Array Slot, lv_has ls 21 [(0, .ref b), (1, .ref (ad 0)), (2, .ref aq), (3, .ref ak), (4, .ref ab), (5, .ref aw), (6, .ref ao), (7, .int y7)] → W p l e room_1 s m (#[Value.ref b]) below meth c H locs 185 5982 (lw_Z below #[Value.ref b] s) (F0 m 42 ls [])) (k434 : (Nat → Int32) → (Nat → Int32) → (Nat → Int32) → (Nat → Int32) → (Nat → Int64) → CS → Int32 → Int32 → Int32 → Option (Int32)) (hk434 : ∀ (qv : Nat → Int32) (kev : Nat → Int32) (bov : Nat → Int32) (wrv : Nat → Int32) (opv : Nat → Int64) (cs : CS) (y7 : Int32) (y8 : Int32) (y13 : Int32), k434 qv kev bov wrv opv cs y7 y8 y13 = some 1 → ∀ (H : Heap) (locs : List Loc), va_P (dC, dI) vwCl (((arrW cyI aq 4 qv) ++ (arrW cyI ak 24 kev) ++ (arrW cyI ab 12 bov) ++ (arrW cyI aw 64 wrv) ++ (larrW cyL ao 2 opv)) ++ mainC cyI cyO cyL ad had cs) H → va_D A (((arrW cyI aq 4 qv) ++ (arrW cyI ak 24 kev) ++ (arrW cyI ab 12 bov) ++ (arrW cyI aw 64 wrv) ++ (larrW cyL ao 2 opv)) ++ mainC cyI cyO cyL ad had cs) → va_S A s.heap H locs → ∀ ls : Array Slot, lv_has ls 21 [(0, .ref b), (1, .ref (ad 0)), (2, .ref aq), (3, .ref ak), (4, .ref ab), (5, .ref aw), (6, .ref ao), (7, .int y7), (8, .int y8), (13, .int y13)] → W p l e room_1 s m (#[Value.ref b]) below meth c H locs 185 5982 (lw_Z below #[Value.ref b] s) (F0 m 434 ls [])) (qv : Nat → Int32) (kev : Nat → Int32) (bov : Nat → Int32) (wrv : Nat → Int32) (opv : Nat → Int64) (cs : CS) (y7 : Int32) (y8 : Int32) (y13 : Int32) (y14 : Int32) (y15 : Int32) (y16 : Int32), fL_law_b580 L xs k42 k434 qv kev bov wrv opv cs y7 y8 y13 y14 y15 y16 = some 1 → ∀ (H : Heap) (locs : List Loc), va_P (dC, dI) vwCl (((arrW cyI aq 4 qv) ++ (arrW cyI ak 24 kev) ++ (arrW cyI ab 12 bov) ++ (arrW cyI aw 64 wrv) ++ (larrW cyL ao 2 opv)) ++ mainC cyI cyO cyL ad had cs) H → va_D A (((arrW cyI aq 4 qv) ++ (arrW cyI ak 24 kev) ++ (arrW cyI ab 12 bov) ++ (arrW cyI aw 64 wrv) ++ (larrW cyL ao 2 opv)) ++ mainC cyI cyO cyL ad had cs) → va_S A s.heap H locs → ∀ ls : Array Slot, lv_has ls 21 [(0, .ref b), (1, .ref (ad 0)), (2, .ref aq), (3, .ref ak), (4, .ref ab), (5, .ref aw), (6, .ref ao), (7, .int y7), (8, .int y8), (13, .int y13), (14, .int y14), (15, .int y15), (16, .int y16)] → W p l e room_1 s m (#[Value.ref b]) below meth c H locs 185 5982 (lw_Z below #[Value.ref b] s) (F0 m 580 ls []) := by
    intro k42 hk42 k434 hk434 qv kev bov wrv opv cs y7 y8 y13 y14 y15 y16 h H locs hP hD hS ls hl
    unfold fL_law_b580 at h
    refine lv_iload hx hb dL_law_580 (lv_at hl 12 rfl) ?_
    refine lv_if_eq (tgt := 600) hx hb dL_law_582 (by decide) (fun c127 => ?_) (fun c127 => ?_)
    · have h := (if_pos c127).symm.trans h
      refine lv_iinc (v := (y13 + 1)) (lv' := [(13, .int (y13 + 1)), (0, .ref b), (1, .ref (ad 0)), (2, .ref aq), (3, .ref ak), (4, .ref ab), (5, .ref aw), (6, .ref ao), (7, .int y7), (8, .int y8), (14, .int y14), (15, .int y15), (16, .int y16)]) hx hb dL_law_600 hl (k := 9) rfl rfl (by decide) rfl (fun ls hl => ?_)
      refine lv_goto (tgt := 434) hx hb dL_law_603 (by decide) ?_
      exact hk434 qv kev bov wrv opv cs y7 y8 (y13 + 1) h _ _ hP hD hS ls (lv_sub hl [1, 2, 3, 4, 5, 6, 7, 8, 9, 0] rfl)
    · have h := (if_neg c127).symm.trans h
      refine lv_aload hx hb dL_law_585 (lv_at hl 5 rfl) ?_
      refine lv_iload hx hb dL_law_587 (lv_at hl 10 rfl) ?_
      refine lv_dup2_11 hx hb dL_law_589 rfl rfl ?_
      obtain ⟨ni128, h⟩ := ifn h
      refine va_iald hx hb hK.1 hP 3 0 rfl rfl ni128 dL_law_590 ?_
      refine lv_iconst (v := 1) hx hb dL_law_591 (by decide) ?_
      refine lv_bipush (v := 19) hx hb dL_law_592 (by decide) ?_
      refine lv_iload hx hb dL_law_594 (lv_at hl 11 rfl) ?_
      refine lv_iadd hx hb dL_law_596 ?_
      refine lv_ishl hx hb dL_law_597 ?_
      refine lv_ior hx hb dL_law_598 ?_
      obtain ⟨ni129, h⟩ := ifn h
      refine va_iast hx hb hK.1 hP hD hS 3 0 rfl rfl ni129 dL_law_599 (fun H locs hP hD hS => ?_)
      have hP : va_P (dC, dI) vwCl (((arrW cyI aq 4 qv) ++ (arrW cyI ak 24 kev) ++ (arrW cyI ab 12 bov) ++ (arrW cyI aw 64 (upd wrv y14.toNatClampNeg ((wrv y14.toNatClampNeg) ||| (1 <<< ((19 + y15) &&& 31))))) ++ (larrW cyL ao 2 opv)) ++ mainC cyI cyO cyL ad had cs) H := hP
      have hD : va_D A (((arrW cyI aq 4 qv) ++ (arrW cyI ak 24 kev) ++ (arrW cyI ab 12 bov) ++ (arrW cyI aw 64 (upd wrv y14.toNatClampNeg ((wrv y14.toNatClampNeg) ||| (1 <<< ((19 + y15) &&& 31))))) ++ (larrW cyL ao 2 opv)) ++ mainC cyI cyO cyL ad had cs) := hD
      refine lv_iinc (v := (y13 + 1)) (lv' := [(13, .int (y13 + 1)), (0, .ref b), (1, .ref (ad 0)), (2, .ref aq), (3, .ref ak), (4, .ref ab), (5, .ref aw), (6, .ref ao), (7, .int y7), (8, .int y8), (14, .int y14), (15, .int y15), (16, .int y16)]) hx hb dL_law_600 hl (k := 9) rfl rfl (by decide) rfl (fun ls hl => ?_)
      refine lv_goto (tgt := 434) hx hb dL_law_603 (by decide) ?_
      exact hk434 qv kev bov (upd wrv y14.toNatClampNeg ((wrv y14.toNatClampNeg) ||| (1 <<< ((19 + y15) &&& 31)))) opv cs y7 y8 (y13 + 1) h _ _ hP hD hS ls (lv_sub hl [1, 2, 3, 4, 5, 6, 7, 8, 9, 0] rfl)
  have kB555 : ∀ (k42 : (Nat → Int32) → (Nat → Int32) → (Nat → Int32) → (Nat → Int32) → (Nat → Int64) → CS → Int32 → Option (Int32)) (hk42 : ∀ (qv : Nat → Int32) (kev : Nat → Int32) (bov : Nat → Int32) (wrv : Nat → Int32) (opv : Nat → Int64) (cs : CS) (y7 : Int32), k42 qv kev bov wrv opv cs y7 = some 1 → ∀ (H : Heap) (locs : List Loc), va_P (dC, dI) vwCl (((arrW cyI aq 4 qv) ++ (arrW cyI ak 24 kev) ++ (arrW cyI ab 12 bov) ++ (arrW cyI aw 64 wrv) ++ (larrW cyL ao 2 opv)) ++ mainC cyI cyO cyL ad had cs) H → va_D A (((arrW cyI aq 4 qv) ++ (arrW cyI ak 24 kev) ++ (arrW cyI ab 12 bov) ++ (arrW cyI aw 64 wrv) ++ (larrW cyL ao 2 opv)) ++ mainC cyI cyO cyL ad had cs) → va_S A s.heap H locs → ∀ ls : Array Slot, lv_has ls 21 [(0, .ref b), (1, .ref (ad 0)), (2, .ref aq), (3, .ref ak), (4, .ref ab), (5, .ref aw), (6, .ref ao), (7, .int y7)] → W p l e room_1 s m (#[Value.ref b]) below meth c H locs 185 5982 (lw_Z below #[Value.ref b] s) (F0 m 42 ls [])) (k434 : (Nat → Int32) → (Nat → Int32) → (Nat → Int32) → (Nat → Int32) → (Nat → Int64) → CS → Int32 → Int32 → Int32 → Option (Int32)) (hk434 : ∀ (qv : Nat → Int32) (kev : Nat → Int32) (bov : Nat → Int32) (wrv : Nat → Int32) (opv : Nat → Int64) (cs : CS) (y7 : Int32) (y8 : Int32) (y13 : Int32), k434 qv kev bov wrv opv cs y7 y8 y13 = some 1 → ∀ (H : Heap) (locs : List Loc), va_P (dC, dI) vwCl (((arrW cyI aq 4 qv) ++ (arrW cyI ak 24 kev) ++ (arrW cyI ab 12 bov) ++ (arrW cyI aw 64 wrv) ++ (larrW cyL ao 2 opv)) ++ mainC cyI cyO cyL ad had cs) H → va_D A (((arrW cyI aq 4 qv) ++ (arrW cyI ak 24 kev) ++ (arrW cyI ab 12 bov) ++ (arrW cyI aw 64 wrv) ++ (larrW cyL ao 2 opv)) ++ mainC cyI cyO cyL ad had cs) → va_S A s.heap H locs → ∀ ls : Array Slot, lv_has ls 21 [(0, .ref b), (1, .ref (ad 0)), (2, .ref aq), (3, .ref ak), (4, .ref ab), (5, .ref aw), (6, .ref ao), (7, .int y7), (8, .int y8), (13, .int y13)] → W p l e room_1 s m (#[Value.ref b]) below meth c H locs 185 5982 (lw_Z below #[Value.ref b] s) (F0 m 434 ls [])) (qv : Nat → Int32) (kev : Nat → Int32) (bov : Nat → Int32) (wrv : Nat → Int32) (opv : Nat → Int64) (cs : CS) (y7 : Int32) (y8 : Int32) (y13 : Int32) (y14 : Int32) (y15 : Int32) (y16 : Int32) (y17 : Int32), fL_law_b555 L xs k42 k434 qv kev bov wrv opv cs y7 y8 y13 y14 y15 y16 y17 = some 1 → ∀ (H : Heap) (locs : List Loc), va_P (dC, dI) vwCl (((arrW cyI aq 4 qv) ++ (arrW cyI ak 24 kev) ++ (arrW cyI ab 12 bov) ++ (arrW cyI aw 64 wrv) ++ (larrW cyL ao 2 opv)) ++ mainC cyI cyO cyL ad had cs) H → va_D A (((arrW cyI aq 4 qv) ++ (arrW cyI ak 24 kev) ++ (arrW cyI ab 12 bov) ++ (arrW cyI aw 64 wrv) ++ (larrW cyL ao 2 opv)) ++ mainC cyI cyO cyL ad had cs) → va_S A s.heap H locs → ∀ ls : Array Slot, lv_has ls 21 [(0, .ref b), (1, .ref (ad 0)), (2, .ref aq), (3, .ref ak), (4, .ref ab), (5, .ref aw), (6, .ref ao), (7, .int y7), (8, .int y8), (13, .int y13), (14, .int y14), (15, .int y15), (16, .int y16), (17, .int y17)] → W p l e room_1 s m (#[Value.ref b]) below meth c H locs 185 5982 (lw_Z below #[Value.ref b] s) (F0 m 555 ls []) := by
    intro k42 hk42 k434 hk434 qv kev bov wrv opv cs y7 y8 y13 y14 y15 y16 y17 h H locs hP hD hS ls hl
    unfold fL_law_b555 at h
    refine lv_aload_n hx hb dL_law_555 rfl (lv_at hl 1 rfl) ?_
    refine lv_iload hx hb dL_law_556 (lv_at hl 10 rfl) ?_
    refine lv_iload hx hb dL_law_558 (lv_at hl 11 rfl) ?_
    obtain ⟨q130, e131, h⟩ := ob h
    refine fr_iG (M := mainC cyI cyO cyL ad had cs) (M' := mainC cyI cyO cyL ad had q130.2) (L' := (((arrW cyI aq 4 qv) ++ (arrW cyI ak 24 kev) ++ (arrW cyI ab 12 bov) ++ (arrW cyI aw 64 wrv) ++ (larrW cyL ao 2 opv)) ++ mainC cyI cyO cyL ad had q130.2)) (F := ((arrW cyI aq 4 qv) ++ (arrW cyI ak 24 kev) ++ (arrW cyI ab 12 bov) ++ (arrW cyI aw 64 wrv) ++ (larrW cyL ao 2 opv))) (va_runV (As := [.int y14, .int y15]) (rest := []) ⟨hx, hb, hml, hown, hts⟩ (uX7_copy l dC dI cyI cyO cyL ad had cs q130.2 y14 y15 q130.1 e131 _) (cwV 2 hts (gVL ml_L_98 im_X7_copy se_X7_copy in_X7 co_X7_copy) rfl rfl rfl (by decide +kernel) ⟨Nat.le_of_ble_eq_true rfl, Nat.le_of_ble_eq_true rfl⟩) (cP_VG hK hP hD List.perm_append_comm 0 rfl rfl) rfl rfl hl.1 rfl (lv_room (Nat.le_of_ble_eq_true rfl)) dL_law_560 ⟨Nat.le_of_ble_eq_true rfl, Nat.le_of_ble_eq_true rfl⟩) hP hD hS hA List.perm_append_comm List.perm_append_comm mainC_ads (fun H locs hP hD hS => ?_)
    refine lv_iload hx hb dL_law_563 (lv_at hl 12 rfl) ?_
    refine lv_if_eq (tgt := 573) hx hb dL_law_565 (by decide) (fun c132 => ?_) (fun c132 => ?_)
    · have h := (if_pos c132).symm.trans h
      refine lv_bipush (v := (-5)) hx hb dL_law_573 (by decide) ?_
      refine lv_icmp_eq (tgt := 580) hx hb dL_law_575 (by decide) (fun c133 => ?_) (fun c133 => ?_)
      · have h := (if_pos c133).symm.trans h
        exact kB580 k42 hk42 k434 hk434 qv kev bov wrv opv q130.2 y7 y8 y13 y14 y15 y16 h _ _ hP hD hS ls (lv_sub hl [0, 1, 2, 3, 4, 5, 6, 7, 8, 9, 10, 11, 12] rfl)
      · have h := (if_neg c133).symm.trans h
        refine lv_iconst (v := 0) hx hb dL_law_578 (by decide) ?_
        exact absurd (Option.some.inj h) (by decide)
    · have h := (if_neg c132).symm.trans h
      refine lv_iload hx hb dL_law_568 (lv_at hl 13 rfl) ?_
      refine lv_goto (tgt := 575) hx hb dL_law_570 (by decide) ?_
      refine lv_icmp_eq (tgt := 580) hx hb dL_law_575 (by decide) (fun c134 => ?_) (fun c134 => ?_)
      · have h := (if_pos c134).symm.trans h
        exact kB580 k42 hk42 k434 hk434 qv kev bov wrv opv q130.2 y7 y8 y13 y14 y15 y16 h _ _ hP hD hS ls (lv_sub hl [0, 1, 2, 3, 4, 5, 6, 7, 8, 9, 10, 11, 12] rfl)
      · have h := (if_neg c134).symm.trans h
        refine lv_iconst (v := 0) hx hb dL_law_578 (by decide) ?_
        exact absurd (Option.some.inj h) (by decide)
  have kB523 : ∀ (k42 : (Nat → Int32) → (Nat → Int32) → (Nat → Int32) → (Nat → Int32) → (Nat → Int64) → CS → Int32 → Option (Int32)) (hk42 : ∀ (qv : Nat → Int32) (kev : Nat → Int32) (bov : Nat → Int32) (wrv : Nat → Int32) (opv : Nat → Int64) (cs : CS) (y7 : Int32), k42 qv kev bov wrv opv cs y7 = some 1 → ∀ (H : Heap) (locs : List Loc), va_P (dC, dI) vwCl (((arrW cyI aq 4 qv) ++ (arrW cyI ak 24 kev) ++ (arrW cyI ab 12 bov) ++ (arrW cyI aw 64 wrv) ++ (larrW cyL ao 2 opv)) ++ mainC cyI cyO cyL ad had cs) H → va_D A (((arrW cyI aq 4 qv) ++ (arrW cyI ak 24 kev) ++ (arrW cyI ab 12 bov) ++ (arrW cyI aw 64 wrv) ++ (larrW cyL ao 2 opv)) ++ mainC cyI cyO cyL ad had cs) → va_S A s.heap H locs → ∀ ls : Array Slot, lv_has ls 21 [(0, .ref b), (1, .ref (ad 0)), (2, .ref aq), (3, .ref ak), (4, .ref ab), (5, .ref aw), (6, .ref ao), (7, .int y7)] → W p l e room_1 s m (#[Value.ref b]) below meth c H locs 185 5982 (lw_Z below #[Value.ref b] s) (F0 m 42 ls [])) (k434 : (Nat → Int32) → (Nat → Int32) → (Nat → Int32) → (Nat → Int32) → (Nat → Int64) → CS → Int32 → Int32 → Int32 → Option (Int32)) (hk434 : ∀ (qv : Nat → Int32) (kev : Nat → Int32) (bov : Nat → Int32) (wrv : Nat → Int32) (opv : Nat → Int64) (cs : CS) (y7 : Int32) (y8 : Int32) (y13 : Int32), k434 qv kev bov wrv opv cs y7 y8 y13 = some 1 → ∀ (H : Heap) (locs : List Loc), va_P (dC, dI) vwCl (((arrW cyI aq 4 qv) ++ (arrW cyI ak 24 kev) ++ (arrW cyI ab 12 bov) ++ (arrW cyI aw 64 wrv) ++ (larrW cyL ao 2 opv)) ++ mainC cyI cyO cyL ad had cs) H → va_D A (((arrW cyI aq 4 qv) ++ (arrW cyI ak 24 kev) ++ (arrW cyI ab 12 bov) ++ (arrW cyI aw 64 wrv) ++ (larrW cyL ao 2 opv)) ++ mainC cyI cyO cyL ad had cs) → va_S A s.heap H locs → ∀ ls : Array Slot, lv_has ls 21 [(0, .ref b), (1, .ref (ad 0)), (2, .ref aq), (3, .ref ak), (4, .ref ab), (5, .ref aw), (6, .ref ao), (7, .int y7), (8, .int y8), (13, .int y13)] → W p l e room_1 s m (#[Value.ref b]) below meth c H locs 185 5982 (lw_Z below #[Value.ref b] s) (F0 m 434 ls [])) (fuel : Nat) (qv : Nat → Int32) (kev : Nat → Int32) (bov : Nat → Int32) (wrv : Nat → Int32) (opv : Nat → Int64) (cs : CS) (y7 : Int32) (y8 : Int32) (y13 : Int32) (y14 : Int32) (y15 : Int32) (y16 : Int32) (y17 : Int32) (y18 : Int32), fL_law_b523 L xs k42 k434 fuel qv kev bov wrv opv cs y7 y8 y13 y14 y15 y16 y17 y18 = some 1 → ∀ (H : Heap) (locs : List Loc), va_P (dC, dI) vwCl (((arrW cyI aq 4 qv) ++ (arrW cyI ak 24 kev) ++ (arrW cyI ab 12 bov) ++ (arrW cyI aw 64 wrv) ++ (larrW cyL ao 2 opv)) ++ mainC cyI cyO cyL ad had cs) H → va_D A (((arrW cyI aq 4 qv) ++ (arrW cyI ak 24 kev) ++ (arrW cyI ab 12 bov) ++ (arrW cyI aw 64 wrv) ++ (larrW cyL ao 2 opv)) ++ mainC cyI cyO cyL ad had cs) → va_S A s.heap H locs → ∀ ls : Array Slot, lv_has ls 21 [(0, .ref b), (1, .ref (ad 0)), (2, .ref aq), (3, .ref ak), (4, .ref ab), (5, .ref aw), (6, .ref ao), (7, .int y7), (8, .int y8), (13, .int y13), (14, .int y14), (15, .int y15), (16, .int y16), (17, .int y17), (18, .int y18)] → W p l e room_1 s m (#[Value.ref b]) below meth c H locs 185 5982 (lw_Z below #[Value.ref b] s) (F0 m 523 ls []) := by
    intro k42 hk42 k434 hk434 fuel
    induction fuel with
    | zero => intro qv kev bov wrv opv cs y7 y8 y13 y14 y15 y16 y17 y18 h; rw [fL_law_b523] at h; cases h
    | succ fuel ih =>
      intro qv kev bov wrv opv cs y7 y8 y13 y14 y15 y16 y17 y18 h H locs hP hD hS ls hl
      rw [fL_law_b523] at h
      refine lv_iload hx hb dL_law_523 (lv_at hl 14 rfl) ?_
      refine lv_aload_n hx hb dL_law_525 rfl (lv_at hl 2 rfl) ?_
      refine lv_iconst (v := 3) hx hb dL_law_526 (by decide) ?_
      obtain ⟨ni135, h⟩ := ifn h
      refine va_iald hx hb hK.1 hP 0 0 rfl rfl ni135 dL_law_527 ?_
      refine lv_icmp_ge (tgt := 555) hx hb dL_law_528 (by decide) (fun c136 => ?_) (fun c136 => ?_)
      · have h := (if_pos c136).symm.trans h
        exact kB555 k42 hk42 k434 hk434 qv kev bov wrv opv cs y7 y8 y13 y14 y15 y16 y17 h _ _ hP hD hS ls (lv_sub hl [0, 1, 2, 3, 4, 5, 6, 7, 8, 9, 10, 11, 12, 13] rfl)
      · have h := (if_neg c136).symm.trans h
        refine lv_iload hx hb dL_law_531 (lv_at hl 13 rfl) ?_
        refine lv_aload hx hb dL_law_533 (lv_at hl 5 rfl) ?_
        refine lv_iload hx hb dL_law_535 (lv_at hl 14 rfl) ?_
        obtain ⟨ni137, h⟩ := ifn h
        refine va_iald hx hb hK.1 hP 3 0 rfl rfl ni137 dL_law_537 ?_
        refine lv_bipush (v := 19) hx hb dL_law_538 (by decide) ?_
        refine lv_iload hx hb dL_law_540 (lv_at hl 11 rfl) ?_
        refine lv_iadd hx hb dL_law_542 ?_
        refine lv_ishr hx hb dL_law_543 ?_
        refine lv_iconst (v := 1) hx hb dL_law_544 (by decide) ?_
        refine lv_iand hx hb dL_law_545 ?_
        refine lv_iadd hx hb dL_law_546 ?_
        refine lv_istore (lv' := [(17, .int (y17 + (((wrv y18.toNatClampNeg) >>> ((19 + y15) &&& 31)) &&& 1))), (0, .ref b), (1, .ref (ad 0)), (2, .ref aq), (3, .ref ak), (4, .ref ab), (5, .ref aw), (6, .ref ao), (7, .int y7), (8, .int y8), (13, .int y13), (14, .int y14), (15, .int y15), (16, .int y16), (18, .int y18)]) hx hb dL_law_547 hl (by decide) rfl (fun ls hl => ?_)
        refine lv_iinc (v := (y18 + 1)) (lv' := [(18, .int (y18 + 1)), (17, .int (y17 + (((wrv y18.toNatClampNeg) >>> ((19 + y15) &&& 31)) &&& 1))), (0, .ref b), (1, .ref (ad 0)), (2, .ref aq), (3, .ref ak), (4, .ref ab), (5, .ref aw), (6, .ref ao), (7, .int y7), (8, .int y8), (13, .int y13), (14, .int y14), (15, .int y15), (16, .int y16)]) hx hb dL_law_549 hl (k := 14) rfl rfl (by decide) rfl (fun ls hl => ?_)
        refine lv_goto (tgt := 523) hx hb dL_law_552 (by decide) ?_
        exact ih qv kev bov wrv opv cs y7 y8 y13 y14 y15 y16 (y17 + (((wrv y18.toNatClampNeg) >>> ((19 + y15) &&& 31)) &&& 1)) (y18 + 1) h _ _ hP hD hS ls (lv_sub hl [2, 3, 4, 5, 6, 7, 8, 9, 10, 11, 12, 13, 14, 1, 0] rfl)
  have kB508 : ∀ (k42 : (Nat → Int32) → (Nat → Int32) → (Nat → Int32) → (Nat → Int32) → (Nat → Int64) → CS → Int32 → Option (Int32)) (hk42 : ∀ (qv : Nat → Int32) (kev : Nat → Int32) (bov : Nat → Int32) (wrv : Nat → Int32) (opv : Nat → Int64) (cs : CS) (y7 : Int32), k42 qv kev bov wrv opv cs y7 = some 1 → ∀ (H : Heap) (locs : List Loc), va_P (dC, dI) vwCl (((arrW cyI aq 4 qv) ++ (arrW cyI ak 24 kev) ++ (arrW cyI ab 12 bov) ++ (arrW cyI aw 64 wrv) ++ (larrW cyL ao 2 opv)) ++ mainC cyI cyO cyL ad had cs) H → va_D A (((arrW cyI aq 4 qv) ++ (arrW cyI ak 24 kev) ++ (arrW cyI ab 12 bov) ++ (arrW cyI aw 64 wrv) ++ (larrW cyL ao 2 opv)) ++ mainC cyI cyO cyL ad had cs) → va_S A s.heap H locs → ∀ ls : Array Slot, lv_has ls 21 [(0, .ref b), (1, .ref (ad 0)), (2, .ref aq), (3, .ref ak), (4, .ref ab), (5, .ref aw), (6, .ref ao), (7, .int y7)] → W p l e room_1 s m (#[Value.ref b]) below meth c H locs 185 5982 (lw_Z below #[Value.ref b] s) (F0 m 42 ls [])) (k434 : (Nat → Int32) → (Nat → Int32) → (Nat → Int32) → (Nat → Int32) → (Nat → Int64) → CS → Int32 → Int32 → Int32 → Option (Int32)) (hk434 : ∀ (qv : Nat → Int32) (kev : Nat → Int32) (bov : Nat → Int32) (wrv : Nat → Int32) (opv : Nat → Int64) (cs : CS) (y7 : Int32) (y8 : Int32) (y13 : Int32), k434 qv kev bov wrv opv cs y7 y8 y13 = some 1 → ∀ (H : Heap) (locs : List Loc), va_P (dC, dI) vwCl (((arrW cyI aq 4 qv) ++ (arrW cyI ak 24 kev) ++ (arrW cyI ab 12 bov) ++ (arrW cyI aw 64 wrv) ++ (larrW cyL ao 2 opv)) ++ mainC cyI cyO cyL ad had cs) H → va_D A (((arrW cyI aq 4 qv) ++ (arrW cyI ak 24 kev) ++ (arrW cyI ab 12 bov) ++ (arrW cyI aw 64 wrv) ++ (larrW cyL ao 2 opv)) ++ mainC cyI cyO cyL ad had cs) → va_S A s.heap H locs → ∀ ls : Array Slot, lv_has ls 21 [(0, .ref b), (1, .ref (ad 0)), (2, .ref aq), (3, .ref ak), (4, .ref ab), (5, .ref aw), (6, .ref ao), (7, .int y7), (8, .int y8), (13, .int y13)] → W p l e room_1 s m (#[Value.ref b]) below meth c H locs 185 5982 (lw_Z below #[Value.ref b] s) (F0 m 434 ls [])) (qv : Nat → Int32) (kev : Nat → Int32) (bov : Nat → Int32) (wrv : Nat → Int32) (opv : Nat → Int64) (cs : CS) (y7 : Int32) (y8 : Int32) (y13 : Int32) (y14 : Int32) (y15 : Int32) (y16 : Int32), fL_law_b508 L xs k42 k434 qv kev bov wrv opv cs y7 y8 y13 y14 y15 y16 = some 1 → ∀ (H : Heap) (locs : List Loc), va_P (dC, dI) vwCl (((arrW cyI aq 4 qv) ++ (arrW cyI ak 24 kev) ++ (arrW cyI ab 12 bov) ++ (arrW cyI aw 64 wrv) ++ (larrW cyL ao 2 opv)) ++ mainC cyI cyO cyL ad had cs) H → va_D A (((arrW cyI aq 4 qv) ++ (arrW cyI ak 24 kev) ++ (arrW cyI ab 12 bov) ++ (arrW cyI aw 64 wrv) ++ (larrW cyL ao 2 opv)) ++ mainC cyI cyO cyL ad had cs) → va_S A s.heap H locs → ∀ ls : Array Slot, lv_has ls 21 [(0, .ref b), (1, .ref (ad 0)), (2, .ref aq), (3, .ref ak), (4, .ref ab), (5, .ref aw), (6, .ref ao), (7, .int y7), (8, .int y8), (13, .int y13), (14, .int y14), (15, .int y15), (16, .int y16)] → W p l e room_1 s m (#[Value.ref b]) below meth c H locs 185 5982 (lw_Z below #[Value.ref b] s) (F0 m 508 ls []) := by
    intro k42 hk42 k434 hk434 qv kev bov wrv opv cs y7 y8 y13 y14 y15 y16 h H locs hP hD hS ls hl
    unfold fL_law_b508 at h
    refine lv_iload hx hb dL_law_508 (lv_at hl 12 rfl) ?_
    refine lv_if_eq (tgt := 517) hx hb dL_law_510 (by decide) (fun c138 => ?_) (fun c138 => ?_)
    · have h := (if_pos c138).symm.trans h
      refine lv_iconst (v := 0) hx hb dL_law_517 (by decide) ?_
      refine lv_istore (lv' := [(17, .int 0), (0, .ref b), (1, .ref (ad 0)), (2, .ref aq), (3, .ref ak), (4, .ref ab), (5, .ref aw), (6, .ref ao), (7, .int y7), (8, .int y8), (13, .int y13), (14, .int y14), (15, .int y15), (16, .int y16)]) hx hb dL_law_518 hl (by decide) rfl (fun ls hl => ?_)
      refine lv_iconst (v := 0) hx hb dL_law_520 (by decide) ?_
      refine lv_istore (lv' := [(18, .int 0), (17, .int 0), (0, .ref b), (1, .ref (ad 0)), (2, .ref aq), (3, .ref ak), (4, .ref ab), (5, .ref aw), (6, .ref ao), (7, .int y7), (8, .int y8), (13, .int y13), (14, .int y14), (15, .int y15), (16, .int y16)]) hx hb dL_law_521 hl (by decide) rfl (fun ls hl => ?_)
      exact kB523 k42 hk42 k434 hk434 6000 qv kev bov wrv opv cs y7 y8 y13 y14 y15 y16 0 0 h _ _ hP hD hS ls (lv_sub hl [2, 3, 4, 5, 6, 7, 8, 9, 10, 11, 12, 13, 14, 1, 0] rfl)
    · have h := (if_neg c138).symm.trans h
      refine lv_iconst (v := 1) hx hb dL_law_513 (by decide) ?_
      refine lv_goto (tgt := 518) hx hb dL_law_514 (by decide) ?_
      refine lv_istore (lv' := [(17, .int 1), (0, .ref b), (1, .ref (ad 0)), (2, .ref aq), (3, .ref ak), (4, .ref ab), (5, .ref aw), (6, .ref ao), (7, .int y7), (8, .int y8), (13, .int y13), (14, .int y14), (15, .int y15), (16, .int y16)]) hx hb dL_law_518 hl (by decide) rfl (fun ls hl => ?_)
      refine lv_iconst (v := 0) hx hb dL_law_520 (by decide) ?_
      refine lv_istore (lv' := [(18, .int 0), (17, .int 1), (0, .ref b), (1, .ref (ad 0)), (2, .ref aq), (3, .ref ak), (4, .ref ab), (5, .ref aw), (6, .ref ao), (7, .int y7), (8, .int y8), (13, .int y13), (14, .int y14), (15, .int y15), (16, .int y16)]) hx hb dL_law_521 hl (by decide) rfl (fun ls hl => ?_)
      exact kB523 k42 hk42 k434 hk434 6000 qv kev bov wrv opv cs y7 y8 y13 y14 y15 y16 1 0 h _ _ hP hD hS ls (lv_sub hl [2, 3, 4, 5, 6, 7, 8, 9, 10, 11, 12, 13, 14, 1, 0] rfl)
  have kB471 : ∀ (k42 : (Nat → Int32) → (Nat → Int32) → (Nat → Int32) → (Nat → Int32) → (Nat → Int64) → CS → Int32 → Option (Int32)) (hk42 : ∀ (qv : Nat → Int32) (kev : Nat → Int32) (bov : Nat → Int32) (wrv : Nat → Int32) (opv : Nat → Int64) (cs : CS) (y7 : Int32), k42 qv kev bov wrv opv cs y7 = some 1 → ∀ (H : Heap) (locs : List Loc), va_P (dC, dI) vwCl (((arrW cyI aq 4 qv) ++ (arrW cyI ak 24 kev) ++ (arrW cyI ab 12 bov) ++ (arrW cyI aw 64 wrv) ++ (larrW cyL ao 2 opv)) ++ mainC cyI cyO cyL ad had cs) H → va_D A (((arrW cyI aq 4 qv) ++ (arrW cyI ak 24 kev) ++ (arrW cyI ab 12 bov) ++ (arrW cyI aw 64 wrv) ++ (larrW cyL ao 2 opv)) ++ mainC cyI cyO cyL ad had cs) → va_S A s.heap H locs → ∀ ls : Array Slot, lv_has ls 21 [(0, .ref b), (1, .ref (ad 0)), (2, .ref aq), (3, .ref ak), (4, .ref ab), (5, .ref aw), (6, .ref ao), (7, .int y7)] → W p l e room_1 s m (#[Value.ref b]) below meth c H locs 185 5982 (lw_Z below #[Value.ref b] s) (F0 m 42 ls [])) (k434 : (Nat → Int32) → (Nat → Int32) → (Nat → Int32) → (Nat → Int32) → (Nat → Int64) → CS → Int32 → Int32 → Int32 → Option (Int32)) (hk434 : ∀ (qv : Nat → Int32) (kev : Nat → Int32) (bov : Nat → Int32) (wrv : Nat → Int32) (opv : Nat → Int64) (cs : CS) (y7 : Int32) (y8 : Int32) (y13 : Int32), k434 qv kev bov wrv opv cs y7 y8 y13 = some 1 → ∀ (H : Heap) (locs : List Loc), va_P (dC, dI) vwCl (((arrW cyI aq 4 qv) ++ (arrW cyI ak 24 kev) ++ (arrW cyI ab 12 bov) ++ (arrW cyI aw 64 wrv) ++ (larrW cyL ao 2 opv)) ++ mainC cyI cyO cyL ad had cs) H → va_D A (((arrW cyI aq 4 qv) ++ (arrW cyI ak 24 kev) ++ (arrW cyI ab 12 bov) ++ (arrW cyI aw 64 wrv) ++ (larrW cyL ao 2 opv)) ++ mainC cyI cyO cyL ad had cs) → va_S A s.heap H locs → ∀ ls : Array Slot, lv_has ls 21 [(0, .ref b), (1, .ref (ad 0)), (2, .ref aq), (3, .ref ak), (4, .ref ab), (5, .ref aw), (6, .ref ao), (7, .int y7), (8, .int y8), (13, .int y13)] → W p l e room_1 s m (#[Value.ref b]) below meth c H locs 185 5982 (lw_Z below #[Value.ref b] s) (F0 m 434 ls [])) (qv : Nat → Int32) (kev : Nat → Int32) (bov : Nat → Int32) (wrv : Nat → Int32) (opv : Nat → Int64) (cs : CS) (y7 : Int32) (y8 : Int32) (y13 : Int32) (y14 : Int32) (y15 : Int32), fL_law_b471 L xs k42 k434 qv kev bov wrv opv cs y7 y8 y13 y14 y15 = some 1 → ∀ (H : Heap) (locs : List Loc), va_P (dC, dI) vwCl (((arrW cyI aq 4 qv) ++ (arrW cyI ak 24 kev) ++ (arrW cyI ab 12 bov) ++ (arrW cyI aw 64 wrv) ++ (larrW cyL ao 2 opv)) ++ mainC cyI cyO cyL ad had cs) H → va_D A (((arrW cyI aq 4 qv) ++ (arrW cyI ak 24 kev) ++ (arrW cyI ab 12 bov) ++ (arrW cyI aw 64 wrv) ++ (larrW cyL ao 2 opv)) ++ mainC cyI cyO cyL ad had cs) → va_S A s.heap H locs → ∀ ls : Array Slot, lv_has ls 21 [(0, .ref b), (1, .ref (ad 0)), (2, .ref aq), (3, .ref ak), (4, .ref ab), (5, .ref aw), (6, .ref ao), (7, .int y7), (8, .int y8), (13, .int y13), (14, .int y14), (15, .int y15)] → W p l e room_1 s m (#[Value.ref b]) below meth c H locs 185 5982 (lw_Z below #[Value.ref b] s) (F0 m 471 ls []) := by
    intro k42 hk42 k434 hk434 qv kev bov wrv opv cs y7 y8 y13 y14 y15 h H locs hP hD hS ls hl
    unfold fL_law_b471 at h
    refine lv_aload hx hb dL_law_471 (lv_at hl 5 rfl) ?_
    refine lv_iload hx hb dL_law_473 (lv_at hl 10 rfl) ?_
    obtain ⟨ni139, h⟩ := ifn h
    refine va_iald hx hb hK.1 hP 3 0 rfl rfl ni139 dL_law_475 ?_
    refine lv_bipush (v := 18) hx hb dL_law_476 (by decide) ?_
    refine lv_ishr hx hb dL_law_478 ?_
    refine lv_iconst (v := 1) hx hb dL_law_479 (by decide) ?_
    refine lv_iand hx hb dL_law_480 ?_
    refine lv_iconst (v := 1) hx hb dL_law_481 (by decide) ?_
    refine lv_icmp_ne (tgt := 505) hx hb dL_law_482 (by decide) (fun c140 => ?_) (fun c140 => ?_)
    · have h := (if_neg c140).symm.trans h
      refine lv_iconst (v := 0) hx hb dL_law_505 (by decide) ?_
      refine lv_istore (lv' := [(16, .int 0), (0, .ref b), (1, .ref (ad 0)), (2, .ref aq), (3, .ref ak), (4, .ref ab), (5, .ref aw), (6, .ref ao), (7, .int y7), (8, .int y8), (13, .int y13), (14, .int y14), (15, .int y15)]) hx hb dL_law_506 hl (by decide) rfl (fun ls hl => ?_)
      exact kB508 k42 hk42 k434 hk434 qv kev bov wrv opv cs y7 y8 y13 y14 y15 0 h _ _ hP hD hS ls (lv_sub hl [1, 2, 3, 4, 5, 6, 7, 8, 9, 10, 11, 12, 0] rfl)
    · have h := (if_pos c140).symm.trans h
      refine lv_aload hx hb dL_law_485 (lv_at hl 5 rfl) ?_
      refine lv_iload hx hb dL_law_487 (lv_at hl 10 rfl) ?_
      obtain ⟨ni141, h⟩ := ifn h
      refine va_iald hx hb hK.1 hP 3 0 rfl rfl ni141 dL_law_489 ?_
      refine lv_bipush (v := 19) hx hb dL_law_490 (by decide) ?_
      refine lv_iload hx hb dL_law_492 (lv_at hl 11 rfl) ?_
      refine lv_iadd hx hb dL_law_494 ?_
      refine lv_ishr hx hb dL_law_495 ?_
      refine lv_iconst (v := 1) hx hb dL_law_496 (by decide) ?_
      refine lv_iand hx hb dL_law_497 ?_
      refine lv_if_ne (tgt := 505) hx hb dL_law_498 (by decide) (fun c142 => ?_) (fun c142 => ?_)
      · have h := (if_neg c142).symm.trans h
        refine lv_iconst (v := 0) hx hb dL_law_505 (by decide) ?_
        refine lv_istore (lv' := [(16, .int 0), (0, .ref b), (1, .ref (ad 0)), (2, .ref aq), (3, .ref ak), (4, .ref ab), (5, .ref aw), (6, .ref ao), (7, .int y7), (8, .int y8), (13, .int y13), (14, .int y14), (15, .int y15)]) hx hb dL_law_506 hl (by decide) rfl (fun ls hl => ?_)
        exact kB508 k42 hk42 k434 hk434 qv kev bov wrv opv cs y7 y8 y13 y14 y15 0 h _ _ hP hD hS ls (lv_sub hl [1, 2, 3, 4, 5, 6, 7, 8, 9, 10, 11, 12, 0] rfl)
      · have h := (if_pos c142).symm.trans h
        refine lv_iconst (v := 1) hx hb dL_law_501 (by decide) ?_
        refine lv_goto (tgt := 506) hx hb dL_law_502 (by decide) ?_
        refine lv_istore (lv' := [(16, .int 1), (0, .ref b), (1, .ref (ad 0)), (2, .ref aq), (3, .ref ak), (4, .ref ab), (5, .ref aw), (6, .ref ao), (7, .int y7), (8, .int y8), (13, .int y13), (14, .int y14), (15, .int y15)]) hx hb dL_law_506 hl (by decide) rfl (fun ls hl => ?_)
        exact kB508 k42 hk42 k434 hk434 qv kev bov wrv opv cs y7 y8 y13 y14 y15 1 h _ _ hP hD hS ls (lv_sub hl [1, 2, 3, 4, 5, 6, 7, 8, 9, 10, 11, 12, 0] rfl)
  have kB434 : ∀ (k42 : (Nat → Int32) → (Nat → Int32) → (Nat → Int32) → (Nat → Int32) → (Nat → Int64) → CS → Int32 → Option (Int32)) (hk42 : ∀ (qv : Nat → Int32) (kev : Nat → Int32) (bov : Nat → Int32) (wrv : Nat → Int32) (opv : Nat → Int64) (cs : CS) (y7 : Int32), k42 qv kev bov wrv opv cs y7 = some 1 → ∀ (H : Heap) (locs : List Loc), va_P (dC, dI) vwCl (((arrW cyI aq 4 qv) ++ (arrW cyI ak 24 kev) ++ (arrW cyI ab 12 bov) ++ (arrW cyI aw 64 wrv) ++ (larrW cyL ao 2 opv)) ++ mainC cyI cyO cyL ad had cs) H → va_D A (((arrW cyI aq 4 qv) ++ (arrW cyI ak 24 kev) ++ (arrW cyI ab 12 bov) ++ (arrW cyI aw 64 wrv) ++ (larrW cyL ao 2 opv)) ++ mainC cyI cyO cyL ad had cs) → va_S A s.heap H locs → ∀ ls : Array Slot, lv_has ls 21 [(0, .ref b), (1, .ref (ad 0)), (2, .ref aq), (3, .ref ak), (4, .ref ab), (5, .ref aw), (6, .ref ao), (7, .int y7)] → W p l e room_1 s m (#[Value.ref b]) below meth c H locs 185 5982 (lw_Z below #[Value.ref b] s) (F0 m 42 ls [])) (fuel : Nat) (qv : Nat → Int32) (kev : Nat → Int32) (bov : Nat → Int32) (wrv : Nat → Int32) (opv : Nat → Int64) (cs : CS) (y7 : Int32) (y8 : Int32) (y13 : Int32), fL_law_b434 L xs k42 fuel qv kev bov wrv opv cs y7 y8 y13 = some 1 → ∀ (H : Heap) (locs : List Loc), va_P (dC, dI) vwCl (((arrW cyI aq 4 qv) ++ (arrW cyI ak 24 kev) ++ (arrW cyI ab 12 bov) ++ (arrW cyI aw 64 wrv) ++ (larrW cyL ao 2 opv)) ++ mainC cyI cyO cyL ad had cs) H → va_D A (((arrW cyI aq 4 qv) ++ (arrW cyI ak 24 kev) ++ (arrW cyI ab 12 bov) ++ (arrW cyI aw 64 wrv) ++ (larrW cyL ao 2 opv)) ++ mainC cyI cyO cyL ad had cs) → va_S A s.heap H locs → ∀ ls : Array Slot, lv_has ls 21 [(0, .ref b), (1, .ref (ad 0)), (2, .ref aq), (3, .ref ak), (4, .ref ab), (5, .ref aw), (6, .ref ao), (7, .int y7), (8, .int y8), (13, .int y13)] → W p l e room_1 s m (#[Value.ref b]) below meth c H locs 185 5982 (lw_Z below #[Value.ref b] s) (F0 m 434 ls []) := by
    intro k42 hk42 fuel
    induction fuel with
    | zero => intro qv kev bov wrv opv cs y7 y8 y13 h; rw [fL_law_b434] at h; cases h
    | succ fuel ih =>
      intro qv kev bov wrv opv cs y7 y8 y13 h H locs hP hD hS ls hl
      rw [fL_law_b434] at h
      refine lv_iload hx hb dL_law_434 (lv_at hl 9 rfl) ?_
      refine lv_iconst (v := 3) hx hb dL_law_436 (by decide) ?_
      refine lv_icmp_ge (tgt := 606) hx hb dL_law_437 (by decide) (fun c143 => ?_) (fun c143 => ?_)
      · have h := (if_pos c143).symm.trans h
        refine lv_goto (tgt := 1208) hx hb dL_law_606 (by decide) ?_
        exact kB1208 k42 hk42 qv kev bov wrv opv cs y7 y8 h _ _ hP hD hS ls (lv_sub hl [0, 1, 2, 3, 4, 5, 6, 7, 8] rfl)
      · have h := (if_neg c143).symm.trans h
        refine lv_iload hx hb dL_law_440 (lv_at hl 8 rfl) ?_
        refine lv_iconst (v := 4) hx hb dL_law_442 (by decide) ?_
        refine lv_iconst (v := 2) hx hb dL_law_443 (by decide) ?_
        refine lv_iload hx hb dL_law_444 (lv_at hl 9 rfl) ?_
        refine lv_imul hx hb dL_law_446 ?_
        refine lv_iadd hx hb dL_law_447 ?_
        refine lv_ishr hx hb dL_law_448 ?_
        refine lv_aload_n hx hb dL_law_449 rfl (lv_at hl 2 rfl) ?_
        refine lv_iconst (v := 3) hx hb dL_law_450 (by decide) ?_
        obtain ⟨ni144, h⟩ := ifn h
        refine va_iald hx hb hK.1 hP 0 0 rfl rfl ni144 dL_law_451 ?_
        obtain ⟨q145, e146, h⟩ := ob h
        refine fr_ir (M := ([] : va_W)) (va_runS (As := [.int (y8 >>> ((4 + (2 * y13)) &&& 31)), .int (qv (3 : Int32).toNatClampNeg)]) (rest := []) ⟨hx, hb, hml, hown, hts⟩ (mL_low l dC dI cyI cyO cyL (y8 >>> ((4 + (2 * y13)) &&& 31)) (qv (3 : Int32).toNatClampNeg) _ q145 e146) (va_cwS 2 hts (gSL ml_L_60 st_L_low in_L co_L_low) rfl rfl rfl (by decide +kernel) ⟨Nat.le_of_ble_eq_true rfl, Nat.le_of_ble_eq_true rfl⟩) (cP_S hK hP hD [] rfl rfl) rfl rfl hl.1 rfl (lv_room (Nat.le_of_ble_eq_true rfl)) dL_law_452 ⟨Nat.le_of_ble_eq_true rfl, Nat.le_of_ble_eq_true rfl⟩) hP hD hS hA [] rfl (fun H locs hP hS => ?_)
        refine lv_istore (lv' := [(14, .int q145), (0, .ref b), (1, .ref (ad 0)), (2, .ref aq), (3, .ref ak), (4, .ref ab), (5, .ref aw), (6, .ref ao), (7, .int y7), (8, .int y8), (13, .int y13)]) hx hb dL_law_455 hl (by decide) rfl (fun ls hl => ?_)
        refine lv_iload hx hb dL_law_457 (lv_at hl 9 rfl) ?_
        refine lv_bipush (v := 9) hx hb dL_law_459 (by decide) ?_
        refine lv_iload hx hb dL_law_461 (lv_at hl 10 rfl) ?_
        refine lv_iadd hx hb dL_law_463 ?_
        refine lv_ishr hx hb dL_law_464 ?_
        refine lv_iconst (v := 3) hx hb dL_law_465 (by decide) ?_
        obtain ⟨q147, e148, h⟩ := ob h
        refine fr_ir (M := ([] : va_W)) (va_runS (As := [.int (y8 >>> ((9 + y13) &&& 31)), .int 3]) (rest := []) ⟨hx, hb, hml, hown, hts⟩ (mL_low l dC dI cyI cyO cyL (y8 >>> ((9 + y13) &&& 31)) 3 _ q147 e148) (va_cwS 2 hts (gSL ml_L_60 st_L_low in_L co_L_low) rfl rfl rfl (by decide +kernel) ⟨Nat.le_of_ble_eq_true rfl, Nat.le_of_ble_eq_true rfl⟩) (cP_S hK hP hD [] rfl rfl) rfl rfl hl.1 rfl (lv_room (Nat.le_of_ble_eq_true rfl)) dL_law_466 ⟨Nat.le_of_ble_eq_true rfl, Nat.le_of_ble_eq_true rfl⟩) hP hD hS hA [] rfl (fun H locs hP hS => ?_)
        refine lv_istore (lv' := [(15, .int q147), (14, .int q145), (0, .ref b), (1, .ref (ad 0)), (2, .ref aq), (3, .ref ak), (4, .ref ab), (5, .ref aw), (6, .ref ao), (7, .int y7), (8, .int y8), (13, .int y13)]) hx hb dL_law_469 hl (by decide) rfl (fun ls hl => ?_)
        exact kB471 k42 hk42 (fL_law_b434 L xs k42 fuel) ih qv kev bov wrv opv cs y7 y8 y13 q145 q147 h _ _ hP hD hS ls (lv_sub hl [2, 3, 4, 5, 6, 7, 8, 9, 10, 11, 1, 0] rfl)
  have kB425 : ∀ (k42 : (Nat → Int32) → (Nat → Int32) → (Nat → Int32) → (Nat → Int32) → (Nat → Int64) → CS → Int32 → Option (Int32)) (hk42 : ∀ (qv : Nat → Int32) (kev : Nat → Int32) (bov : Nat → Int32) (wrv : Nat → Int32) (opv : Nat → Int64) (cs : CS) (y7 : Int32), k42 qv kev bov wrv opv cs y7 = some 1 → ∀ (H : Heap) (locs : List Loc), va_P (dC, dI) vwCl (((arrW cyI aq 4 qv) ++ (arrW cyI ak 24 kev) ++ (arrW cyI ab 12 bov) ++ (arrW cyI aw 64 wrv) ++ (larrW cyL ao 2 opv)) ++ mainC cyI cyO cyL ad had cs) H → va_D A (((arrW cyI aq 4 qv) ++ (arrW cyI ak 24 kev) ++ (arrW cyI ab 12 bov) ++ (arrW cyI aw 64 wrv) ++ (larrW cyL ao 2 opv)) ++ mainC cyI cyO cyL ad had cs) → va_S A s.heap H locs → ∀ ls : Array Slot, lv_has ls 21 [(0, .ref b), (1, .ref (ad 0)), (2, .ref aq), (3, .ref ak), (4, .ref ab), (5, .ref aw), (6, .ref ao), (7, .int y7)] → W p l e room_1 s m (#[Value.ref b]) below meth c H locs 185 5982 (lw_Z below #[Value.ref b] s) (F0 m 42 ls [])) (qv : Nat → Int32) (kev : Nat → Int32) (bov : Nat → Int32) (wrv : Nat → Int32) (opv : Nat → Int64) (cs : CS) (y7 : Int32) (y8 : Int32) (y9 : Int32) (y10 : Int32) (y11 : Int32), fL_law_b425 L xs k42 qv kev bov wrv opv cs y7 y8 y9 y10 y11 = some 1 → ∀ (H : Heap) (locs : List Loc), va_P (dC, dI) vwCl (((arrW cyI aq 4 qv) ++ (arrW cyI ak 24 kev) ++ (arrW cyI ab 12 bov) ++ (arrW cyI aw 64 wrv) ++ (larrW cyL ao 2 opv)) ++ mainC cyI cyO cyL ad had cs) H → va_D A (((arrW cyI aq 4 qv) ++ (arrW cyI ak 24 kev) ++ (arrW cyI ab 12 bov) ++ (arrW cyI aw 64 wrv) ++ (larrW cyL ao 2 opv)) ++ mainC cyI cyO cyL ad had cs) → va_S A s.heap H locs → ∀ ls : Array Slot, lv_has ls 21 [(0, .ref b), (1, .ref (ad 0)), (2, .ref aq), (3, .ref ak), (4, .ref ab), (5, .ref aw), (6, .ref ao), (7, .int y7), (8, .int y8), (9, .int y9), (10, .int y10), (11, .int y11)] → W p l e room_1 s m (#[Value.ref b]) below meth c H locs 185 5982 (lw_Z below #[Value.ref b] s) (F0 m 425 ls []) := by
    intro k42 hk42 qv kev bov wrv opv cs y7 y8 y9 y10 y11 h H locs hP hD hS ls hl
    unfold fL_law_b425 at h
    refine lv_aload_n hx hb dL_law_425 rfl (lv_at hl 2 rfl) ?_
    refine lv_iconst (v := 3) hx hb dL_law_426 (by decide) ?_
    obtain ⟨ni149, h⟩ := ifn h
    refine va_iald hx hb hK.1 hP 0 0 rfl rfl ni149 dL_law_427 ?_
    refine lv_if_le (tgt := 609) hx hb dL_law_428 (by decide) (fun c150 => ?_) (fun c150 => ?_)
    · have h := (if_pos c150).symm.trans h
      exact kB609 k42 hk42 qv kev bov wrv opv cs y7 y8 y9 y10 y11 h _ _ hP hD hS ls (lv_sub hl [0, 1, 2, 3, 4, 5, 6, 7, 8, 9, 10, 11] rfl)
    · have h := (if_neg c150).symm.trans h
      refine lv_iconst (v := 0) hx hb dL_law_431 (by decide) ?_
      refine lv_istore (lv' := [(13, .int 0), (0, .ref b), (1, .ref (ad 0)), (2, .ref aq), (3, .ref ak), (4, .ref ab), (5, .ref aw), (6, .ref ao), (7, .int y7), (8, .int y8), (9, .int y9), (10, .int y10), (11, .int y11)]) hx hb dL_law_432 hl (by decide) rfl (fun ls hl => ?_)
      exact kB434 k42 hk42 6000 qv kev bov wrv opv cs y7 y8 0 h _ _ hP hD hS ls (lv_sub hl [1, 2, 3, 4, 5, 6, 7, 8, 9, 0] rfl)
  have kB274 : ∀ (k42 : (Nat → Int32) → (Nat → Int32) → (Nat → Int32) → (Nat → Int32) → (Nat → Int64) → CS → Int32 → Option (Int32)) (hk42 : ∀ (qv : Nat → Int32) (kev : Nat → Int32) (bov : Nat → Int32) (wrv : Nat → Int32) (opv : Nat → Int64) (cs : CS) (y7 : Int32), k42 qv kev bov wrv opv cs y7 = some 1 → ∀ (H : Heap) (locs : List Loc), va_P (dC, dI) vwCl (((arrW cyI aq 4 qv) ++ (arrW cyI ak 24 kev) ++ (arrW cyI ab 12 bov) ++ (arrW cyI aw 64 wrv) ++ (larrW cyL ao 2 opv)) ++ mainC cyI cyO cyL ad had cs) H → va_D A (((arrW cyI aq 4 qv) ++ (arrW cyI ak 24 kev) ++ (arrW cyI ab 12 bov) ++ (arrW cyI aw 64 wrv) ++ (larrW cyL ao 2 opv)) ++ mainC cyI cyO cyL ad had cs) → va_S A s.heap H locs → ∀ ls : Array Slot, lv_has ls 21 [(0, .ref b), (1, .ref (ad 0)), (2, .ref aq), (3, .ref ak), (4, .ref ab), (5, .ref aw), (6, .ref ao), (7, .int y7)] → W p l e room_1 s m (#[Value.ref b]) below meth c H locs 185 5982 (lw_Z below #[Value.ref b] s) (F0 m 42 ls [])) (qv : Nat → Int32) (kev : Nat → Int32) (bov : Nat → Int32) (wrv : Nat → Int32) (opv : Nat → Int64) (cs : CS) (y7 : Int32) (y8 : Int32) (y10 : Int32) (y13 : Int32) (y14 : Int32) (z1 : Int32) (z2 : Int32), fL_law_b274 L xs k42 qv kev bov wrv opv cs y7 y8 y10 y13 y14 z1 z2 = some 1 → ∀ (H : Heap) (locs : List Loc), va_P (dC, dI) vwCl (((arrW cyI aq 4 qv) ++ (arrW cyI ak 24 kev) ++ (arrW cyI ab 12 bov) ++ (arrW cyI aw 64 wrv) ++ (larrW cyL ao 2 opv)) ++ mainC cyI cyO cyL ad had cs) H → va_D A (((arrW cyI aq 4 qv) ++ (arrW cyI ak 24 kev) ++ (arrW cyI ab 12 bov) ++ (arrW cyI aw 64 wrv) ++ (larrW cyL ao 2 opv)) ++ mainC cyI cyO cyL ad had cs) → va_S A s.heap H locs → ∀ ls : Array Slot, lv_has ls 21 [(0, .ref b), (1, .ref (ad 0)), (2, .ref aq), (3, .ref ak), (4, .ref ab), (5, .ref aw), (6, .ref ao), (7, .int y7), (8, .int y8), (10, .int y10), (13, .int y13), (14, .int y14)] → W p l e room_1 s m (#[Value.ref b]) below meth c H locs 185 5982 (lw_Z below #[Value.ref b] s) (F0 m 274 ls [.int z2, .int z1, .ref ak]) := by
    intro k42 hk42 qv kev bov wrv opv cs y7 y8 y10 y13 y14 z1 z2 h H locs hP hD hS ls hl
    unfold fL_law_b274 at h
    obtain ⟨ni151, h⟩ := ifn h
    refine va_iast hx hb hK.1 hP hD hS 1 0 rfl rfl ni151 dL_law_274 (fun H locs hP hD hS => ?_)
    have hP : va_P (dC, dI) vwCl (((arrW cyI aq 4 qv) ++ (arrW cyI ak 24 (upd kev z1.toNatClampNeg z2)) ++ (arrW cyI ab 12 bov) ++ (arrW cyI aw 64 wrv) ++ (larrW cyL ao 2 opv)) ++ mainC cyI cyO cyL ad had cs) H := hP
    have hD : va_D A (((arrW cyI aq 4 qv) ++ (arrW cyI ak 24 (upd kev z1.toNatClampNeg z2)) ++ (arrW cyI ab 12 bov) ++ (arrW cyI aw 64 wrv) ++ (larrW cyL ao 2 opv)) ++ mainC cyI cyO cyL ad had cs) := hD
    refine lv_aload_n hx hb dL_law_275 rfl (lv_at hl 3 rfl) ?_
    refine lv_iload hx hb dL_law_276 (lv_at hl 11 rfl) ?_
    refine lv_iconst (v := 1) hx hb dL_law_278 (by decide) ?_
    refine lv_iadd hx hb dL_law_279 ?_
    refine lv_iconst (v := 1) hx hb dL_law_280 (by decide) ?_
    obtain ⟨ni152, h⟩ := ifn h
    refine va_iast hx hb hK.1 hP hD hS 1 0 rfl rfl ni152 dL_law_281 (fun H locs hP hD hS => ?_)
    have hP : va_P (dC, dI) vwCl (((arrW cyI aq 4 qv) ++ (arrW cyI ak 24 (upd (upd kev z1.toNatClampNeg z2) (y14 + 1).toNatClampNeg 1)) ++ (arrW cyI ab 12 bov) ++ (arrW cyI aw 64 wrv) ++ (larrW cyL ao 2 opv)) ++ mainC cyI cyO cyL ad had cs) H := hP
    have hD : va_D A (((arrW cyI aq 4 qv) ++ (arrW cyI ak 24 (upd (upd kev z1.toNatClampNeg z2) (y14 + 1).toNatClampNeg 1)) ++ (arrW cyI ab 12 bov) ++ (arrW cyI aw 64 wrv) ++ (larrW cyL ao 2 opv)) ++ mainC cyI cyO cyL ad had cs) := hD
    refine lv_aload_n hx hb dL_law_282 rfl (lv_at hl 2 rfl) ?_
    refine lv_iconst (v := 1) hx hb dL_law_283 (by decide) ?_
    refine lv_dup2_11 hx hb dL_law_284 rfl rfl ?_
    obtain ⟨ni153, h⟩ := ifn h
    refine va_iald hx hb hK.1 hP 0 0 rfl rfl ni153 dL_law_285 ?_
    refine lv_iconst (v := 1) hx hb dL_law_286 (by decide) ?_
    refine lv_iadd hx hb dL_law_287 ?_
    obtain ⟨ni154, h⟩ := ifn h
    refine va_iast hx hb hK.1 hP hD hS 0 0 rfl rfl ni154 dL_law_288 (fun H locs hP hD hS => ?_)
    have hP : va_P (dC, dI) vwCl (((arrW cyI aq 4 (upd qv (1 : Int32).toNatClampNeg ((qv (1 : Int32).toNatClampNeg) + 1))) ++ (arrW cyI ak 24 (upd (upd kev z1.toNatClampNeg z2) (y14 + 1).toNatClampNeg 1)) ++ (arrW cyI ab 12 bov) ++ (arrW cyI aw 64 wrv) ++ (larrW cyL ao 2 opv)) ++ mainC cyI cyO cyL ad had cs) H := hP
    have hD : va_D A (((arrW cyI aq 4 (upd qv (1 : Int32).toNatClampNeg ((qv (1 : Int32).toNatClampNeg) + 1))) ++ (arrW cyI ak 24 (upd (upd kev z1.toNatClampNeg z2) (y14 + 1).toNatClampNeg 1)) ++ (arrW cyI ab 12 bov) ++ (arrW cyI aw 64 wrv) ++ (larrW cyL ao 2 opv)) ++ mainC cyI cyO cyL ad had cs) := hD
    refine lv_iload hx hb dL_law_289 (lv_at hl 10 rfl) ?_
    refine lv_if_ne (tgt := 309) hx hb dL_law_291 (by decide) (fun c155 => ?_) (fun c155 => ?_)
    · have h := (if_neg c155).symm.trans h
      refine lv_goto (tgt := 1208) hx hb dL_law_309 (by decide) ?_
      exact kB1208 k42 hk42 (upd qv (1 : Int32).toNatClampNeg ((qv (1 : Int32).toNatClampNeg) + 1)) (upd (upd kev z1.toNatClampNeg z2) (y14 + 1).toNatClampNeg 1) bov wrv opv cs y7 y8 h _ _ hP hD hS ls (lv_sub hl [0, 1, 2, 3, 4, 5, 6, 7, 8] rfl)
    · have h := (if_pos c155).symm.trans h
      refine lv_aload_n hx hb dL_law_294 rfl (lv_at hl 2 rfl) ?_
      refine lv_iconst (v := 1) hx hb dL_law_295 (by decide) ?_
      obtain ⟨ni156, h⟩ := ifn h
      refine va_iald hx hb hK.1 hP 0 0 rfl rfl ni156 dL_law_296 ?_
      refine lv_iconst (v := 1) hx hb dL_law_297 (by decide) ?_
      refine lv_isub hx hb dL_law_298 ?_
      refine lv_iconst (v := 0) hx hb dL_law_299 (by decide) ?_
      refine lv_iload hx hb dL_law_300 (lv_at hl 9 rfl) ?_
      refine lv_aload_n hx hb dL_law_302 rfl (lv_at hl 2 rfl) ?_
      refine lv_aload_n hx hb dL_law_303 rfl (lv_at hl 3 rfl) ?_
      refine lv_aload hx hb dL_law_304 (lv_at hl 5 rfl) ?_
      obtain ⟨q157, e158, h⟩ := ob h
      refine fr_vK (L1 := ((arrW cyI aq 4 (upd qv (1 : Int32).toNatClampNeg ((qv (1 : Int32).toNatClampNeg) + 1))) ++ (arrW cyI ak 24 (upd (upd kev z1.toNatClampNeg z2) (y14 + 1).toNatClampNeg 1)) ++ (arrW cyI ab 12 bov) ++ (arrW cyI aw 64 wrv) ++ (larrW cyL ao 2 opv))) (M := ((arrW cyI aq 4 (upd qv (1 : Int32).toNatClampNeg ((qv (1 : Int32).toNatClampNeg) + 1))) ++ (arrW cyI ak 24 (upd (upd kev z1.toNatClampNeg z2) (y14 + 1).toNatClampNeg 1)) ++ (arrW cyI aw 64 wrv))) (M' := ((arrW cyI aq 4 q157.1) ++ (arrW cyI ak 24 q157.2.1) ++ (arrW cyI aw 64 q157.2.2))) (L2 := ((arrW cyI aq 4 q157.1) ++ (arrW cyI ak 24 q157.2.1) ++ (arrW cyI ab 12 bov) ++ (arrW cyI aw 64 q157.2.2) ++ (larrW cyL ao 2 opv))) (va_runS (As := [.int (((upd qv (1 : Int32).toNatClampNeg ((qv (1 : Int32).toNatClampNeg) + 1)) (1 : Int32).toNatClampNeg) - 1), .int 0, .int y10, .ref aq, .ref ak, .ref aw]) (rest := []) ⟨hx, hb, hml, hown, hts⟩ (mL_wrap l dC dI cyI cyO cyL aq ak aw (upd qv (1 : Int32).toNatClampNeg ((qv (1 : Int32).toNatClampNeg) + 1)) (upd (upd kev z1.toNatClampNeg z2) (y14 + 1).toNatClampNeg 1) wrv (((upd qv (1 : Int32).toNatClampNeg ((qv (1 : Int32).toNatClampNeg) + 1)) (1 : Int32).toNatClampNeg) - 1) 0 y10 _ q157 e158) (va_cwS 6 hts (gSL ml_L_17 st_L_wrap in_L co_L_wrap) rfl rfl rfl (by decide +kernel) ⟨Nat.le_of_ble_eq_true rfl, Nat.le_of_ble_eq_true rfl⟩) (cP_S hK hP hD [0, 1, 3] rfl rfl) rfl rfl hl.1 rfl (lv_room (Nat.le_of_ble_eq_true rfl)) dL_law_306 ⟨Nat.le_of_ble_eq_true rfl, Nat.le_of_ble_eq_true rfl⟩) hP hD hS hA [0, 1, 3] rfl [(true, 0), (true, 1), (false, 2), (true, 2), (false, 4)] rfl rfl rfl (fun H locs hP hD hS => ?_)
      refine lv_goto (tgt := 1208) hx hb dL_law_309 (by decide) ?_
      exact kB1208 k42 hk42 q157.1 q157.2.1 bov q157.2.2 opv cs y7 y8 h _ _ hP hD hS ls (lv_sub hl [0, 1, 2, 3, 4, 5, 6, 7, 8] rfl)
  have kB253 : ∀ (k42 : (Nat → Int32) → (Nat → Int32) → (Nat → Int32) → (Nat → Int32) → (Nat → Int64) → CS → Int32 → Option (Int32)) (hk42 : ∀ (qv : Nat → Int32) (kev : Nat → Int32) (bov : Nat → Int32) (wrv : Nat → Int32) (opv : Nat → Int64) (cs : CS) (y7 : Int32), k42 qv kev bov wrv opv cs y7 = some 1 → ∀ (H : Heap) (locs : List Loc), va_P (dC, dI) vwCl (((arrW cyI aq 4 qv) ++ (arrW cyI ak 24 kev) ++ (arrW cyI ab 12 bov) ++ (arrW cyI aw 64 wrv) ++ (larrW cyL ao 2 opv)) ++ mainC cyI cyO cyL ad had cs) H → va_D A (((arrW cyI aq 4 qv) ++ (arrW cyI ak 24 kev) ++ (arrW cyI ab 12 bov) ++ (arrW cyI aw 64 wrv) ++ (larrW cyL ao 2 opv)) ++ mainC cyI cyO cyL ad had cs) → va_S A s.heap H locs → ∀ ls : Array Slot, lv_has ls 21 [(0, .ref b), (1, .ref (ad 0)), (2, .ref aq), (3, .ref ak), (4, .ref ab), (5, .ref aw), (6, .ref ao), (7, .int y7)] → W p l e room_1 s m (#[Value.ref b]) below meth c H locs 185 5982 (lw_Z below #[Value.ref b] s) (F0 m 42 ls [])) (qv : Nat → Int32) (kev : Nat → Int32) (bov : Nat → Int32) (wrv : Nat → Int32) (opv : Nat → Int64) (cs : CS) (y7 : Int32) (y8 : Int32) (y10 : Int32) (y13 : Int32), fL_law_b253 L xs k42 qv kev bov wrv opv cs y7 y8 y10 y13 = some 1 → ∀ (H : Heap) (locs : List Loc), va_P (dC, dI) vwCl (((arrW cyI aq 4 qv) ++ (arrW cyI ak 24 kev) ++ (arrW cyI ab 12 bov) ++ (arrW cyI aw 64 wrv) ++ (larrW cyL ao 2 opv)) ++ mainC cyI cyO cyL ad had cs) H → va_D A (((arrW cyI aq 4 qv) ++ (arrW cyI ak 24 kev) ++ (arrW cyI ab 12 bov) ++ (arrW cyI aw 64 wrv) ++ (larrW cyL ao 2 opv)) ++ mainC cyI cyO cyL ad had cs) → va_S A s.heap H locs → ∀ ls : Array Slot, lv_has ls 21 [(0, .ref b), (1, .ref (ad 0)), (2, .ref aq), (3, .ref ak), (4, .ref ab), (5, .ref aw), (6, .ref ao), (7, .int y7), (8, .int y8), (10, .int y10), (13, .int y13)] → W p l e room_1 s m (#[Value.ref b]) below meth c H locs 185 5982 (lw_Z below #[Value.ref b] s) (F0 m 253 ls []) := by
    intro k42 hk42 qv kev bov wrv opv cs y7 y8 y10 y13 h H locs hP hD hS ls hl
    unfold fL_law_b253 at h
    refine lv_iconst (v := 4) hx hb dL_law_253 (by decide) ?_
    refine lv_aload_n hx hb dL_law_254 rfl (lv_at hl 2 rfl) ?_
    refine lv_iconst (v := 1) hx hb dL_law_255 (by decide) ?_
    obtain ⟨ni159, h⟩ := ifn h
    refine va_iald hx hb hK.1 hP 0 0 rfl rfl ni159 dL_law_256 ?_
    refine lv_imul hx hb dL_law_257 ?_
    refine lv_istore (lv' := [(14, .int (4 * (qv (1 : Int32).toNatClampNeg))), (0, .ref b), (1, .ref (ad 0)), (2, .ref aq), (3, .ref ak), (4, .ref ab), (5, .ref aw), (6, .ref ao), (7, .int y7), (8, .int y8), (10, .int y10), (13, .int y13)]) hx hb dL_law_258 hl (by decide) rfl (fun ls hl => ?_)
    refine lv_aload_n hx hb dL_law_260 rfl (lv_at hl 4 rfl) ?_
    refine lv_iload hx hb dL_law_261 (lv_at hl 0 rfl) ?_
    refine lv_iload hx hb dL_law_263 (lv_at hl 11 rfl) ?_
    refine lv_if_eq (tgt := 272) hx hb dL_law_265 (by decide) (fun c160 => ?_) (fun c160 => ?_)
    · have h := (if_pos c160).symm.trans h
      refine lv_iload hx hb dL_law_272 (lv_at hl 10 rfl) ?_
      exact kB274 k42 hk42 qv kev bov wrv opv cs y7 y8 y10 y13 (4 * (qv (1 : Int32).toNatClampNeg)) (4 * (qv (1 : Int32).toNatClampNeg)) y10 h _ _ hP hD hS ls (lv_sub hl [1, 2, 3, 4, 5, 6, 7, 8, 9, 10, 11, 0] rfl)
    · have h := (if_neg c160).symm.trans h
      refine lv_iconst (v := (-1)) hx hb dL_law_268 (by decide) ?_
      refine lv_goto (tgt := 274) hx hb dL_law_269 (by decide) ?_
      exact kB274 k42 hk42 qv kev bov wrv opv cs y7 y8 y10 y13 (4 * (qv (1 : Int32).toNatClampNeg)) (4 * (qv (1 : Int32).toNatClampNeg)) (-1) h _ _ hP hD hS ls (lv_sub hl [1, 2, 3, 4, 5, 6, 7, 8, 9, 10, 11, 0] rfl)
  have kB235 : ∀ (k42 : (Nat → Int32) → (Nat → Int32) → (Nat → Int32) → (Nat → Int32) → (Nat → Int64) → CS → Int32 → Option (Int32)) (hk42 : ∀ (qv : Nat → Int32) (kev : Nat → Int32) (bov : Nat → Int32) (wrv : Nat → Int32) (opv : Nat → Int64) (cs : CS) (y7 : Int32), k42 qv kev bov wrv opv cs y7 = some 1 → ∀ (H : Heap) (locs : List Loc), va_P (dC, dI) vwCl (((arrW cyI aq 4 qv) ++ (arrW cyI ak 24 kev) ++ (arrW cyI ab 12 bov) ++ (arrW cyI aw 64 wrv) ++ (larrW cyL ao 2 opv)) ++ mainC cyI cyO cyL ad had cs) H → va_D A (((arrW cyI aq 4 qv) ++ (arrW cyI ak 24 kev) ++ (arrW cyI ab 12 bov) ++ (arrW cyI aw 64 wrv) ++ (larrW cyL ao 2 opv)) ++ mainC cyI cyO cyL ad had cs) → va_S A s.heap H locs → ∀ ls : Array Slot, lv_has ls 21 [(0, .ref b), (1, .ref (ad 0)), (2, .ref aq), (3, .ref ak), (4, .ref ab), (5, .ref aw), (6, .ref ao), (7, .int y7)] → W p l e room_1 s m (#[Value.ref b]) below meth c H locs 185 5982 (lw_Z below #[Value.ref b] s) (F0 m 42 ls [])) (qv : Nat → Int32) (kev : Nat → Int32) (bov : Nat → Int32) (wrv : Nat → Int32) (opv : Nat → Int64) (cs : CS) (y7 : Int32) (y8 : Int32) (y10 : Int32) (y12 : Int32) (y13 : Int32) (z0 : Int32) (z1 : Int32), fL_law_b235 L xs k42 qv kev bov wrv opv cs y7 y8 y10 y12 y13 z0 z1 = some 1 → ∀ (H : Heap) (locs : List Loc), va_P (dC, dI) vwCl (((arrW cyI aq 4 qv) ++ (arrW cyI ak 24 kev) ++ (arrW cyI ab 12 bov) ++ (arrW cyI aw 64 wrv) ++ (larrW cyL ao 2 opv)) ++ mainC cyI cyO cyL ad had cs) H → va_D A (((arrW cyI aq 4 qv) ++ (arrW cyI ak 24 kev) ++ (arrW cyI ab 12 bov) ++ (arrW cyI aw 64 wrv) ++ (larrW cyL ao 2 opv)) ++ mainC cyI cyO cyL ad had cs) → va_S A s.heap H locs → ∀ ls : Array Slot, lv_has ls 21 [(0, .ref b), (1, .ref (ad 0)), (2, .ref aq), (3, .ref ak), (4, .ref ab), (5, .ref aw), (6, .ref ao), (7, .int y7), (8, .int y8), (10, .int y10), (12, .int y12), (13, .int y13)] → W p l e room_1 s m (#[Value.ref b]) below meth c H locs 185 5982 (lw_Z below #[Value.ref b] s) (F0 m 235 ls [.int z1, .int z0]) := by
    intro k42 hk42 qv kev bov wrv opv cs y7 y8 y10 y12 y13 z0 z1 h H locs hP hD hS ls hl
    unfold fL_law_b235 at h
    refine lv_icmp_eq (tgt := 240) hx hb dL_law_235 (by decide) (fun c161 => ?_) (fun c161 => ?_)
    · have h := (if_pos c161).symm.trans h
      refine lv_iload hx hb dL_law_240 (lv_at hl 11 rfl) ?_
      refine lv_if_ne (tgt := 253) hx hb dL_law_242 (by decide) (fun c162 => ?_) (fun c162 => ?_)
      · have h := (if_neg c162).symm.trans h
        exact kB253 k42 hk42 qv kev bov wrv opv cs y7 y8 y10 y13 h _ _ hP hD hS ls (lv_sub hl [0, 1, 2, 3, 4, 5, 6, 7, 8, 9, 11] rfl)
      · have h := (if_pos c162).symm.trans h
        refine lv_iload hx hb dL_law_245 (lv_at hl 10 rfl) ?_
        refine lv_if_ne (tgt := 253) hx hb dL_law_247 (by decide) (fun c163 => ?_) (fun c163 => ?_)
        · have h := (if_neg c163).symm.trans h
          exact kB253 k42 hk42 qv kev bov wrv opv cs y7 y8 y10 y13 h _ _ hP hD hS ls (lv_sub hl [0, 1, 2, 3, 4, 5, 6, 7, 8, 9, 11] rfl)
        · have h := (if_pos c163).symm.trans h
          refine lv_goto (tgt := 1229) hx hb dL_law_250 (by decide) ?_
          exact kB1229 k42 hk42 qv kev bov wrv opv cs y7 h _ _ hP hD hS ls (lv_sub hl [0, 1, 2, 3, 4, 5, 6, 7] rfl)
    · have h := (if_neg c161).symm.trans h
      refine lv_iconst (v := 0) hx hb dL_law_238 (by decide) ?_
      exact absurd (Option.some.inj h) (by decide)
  have kB192 : ∀ (k42 : (Nat → Int32) → (Nat → Int32) → (Nat → Int32) → (Nat → Int32) → (Nat → Int64) → CS → Int32 → Option (Int32)) (hk42 : ∀ (qv : Nat → Int32) (kev : Nat → Int32) (bov : Nat → Int32) (wrv : Nat → Int32) (opv : Nat → Int64) (cs : CS) (y7 : Int32), k42 qv kev bov wrv opv cs y7 = some 1 → ∀ (H : Heap) (locs : List Loc), va_P (dC, dI) vwCl (((arrW cyI aq 4 qv) ++ (arrW cyI ak 24 kev) ++ (arrW cyI ab 12 bov) ++ (arrW cyI aw 64 wrv) ++ (larrW cyL ao 2 opv)) ++ mainC cyI cyO cyL ad had cs) H → va_D A (((arrW cyI aq 4 qv) ++ (arrW cyI ak 24 kev) ++ (arrW cyI ab 12 bov) ++ (arrW cyI aw 64 wrv) ++ (larrW cyL ao 2 opv)) ++ mainC cyI cyO cyL ad had cs) → va_S A s.heap H locs → ∀ ls : Array Slot, lv_has ls 21 [(0, .ref b), (1, .ref (ad 0)), (2, .ref aq), (3, .ref ak), (4, .ref ab), (5, .ref aw), (6, .ref ao), (7, .int y7)] → W p l e room_1 s m (#[Value.ref b]) below meth c H locs 185 5982 (lw_Z below #[Value.ref b] s) (F0 m 42 ls [])) (qv : Nat → Int32) (kev : Nat → Int32) (bov : Nat → Int32) (wrv : Nat → Int32) (opv : Nat → Int64) (cs : CS) (y7 : Int32) (y8 : Int32) (y10 : Int32) (y11 : Int32) (y12 : Int32) (y13 : Int32), fL_law_b192 L xs k42 qv kev bov wrv opv cs y7 y8 y10 y11 y12 y13 = some 1 → ∀ (H : Heap) (locs : List Loc), va_P (dC, dI) vwCl (((arrW cyI aq 4 qv) ++ (arrW cyI ak 24 kev) ++ (arrW cyI ab 12 bov) ++ (arrW cyI aw 64 wrv) ++ (larrW cyL ao 2 opv)) ++ mainC cyI cyO cyL ad had cs) H → va_D A (((arrW cyI aq 4 qv) ++ (arrW cyI ak 24 kev) ++ (arrW cyI ab 12 bov) ++ (arrW cyI aw 64 wrv) ++ (larrW cyL ao 2 opv)) ++ mainC cyI cyO cyL ad had cs) → va_S A s.heap H locs → ∀ ls : Array Slot, lv_has ls 21 [(0, .ref b), (1, .ref (ad 0)), (2, .ref aq), (3, .ref ak), (4, .ref ab), (5, .ref aw), (6, .ref ao), (7, .int y7), (8, .int y8), (10, .int y10), (11, .int y11), (12, .int y12), (13, .int y13)] → W p l e room_1 s m (#[Value.ref b]) below meth c H locs 185 5982 (lw_Z below #[Value.ref b] s) (F0 m 192 ls []) := by
    intro k42 hk42 qv kev bov wrv opv cs y7 y8 y10 y11 y12 y13 h H locs hP hD hS ls hl
    unfold fL_law_b192 at h
    refine lv_aload_n hx hb dL_law_192 rfl (lv_at hl 1 rfl) ?_
    refine lv_iload hx hb dL_law_193 (lv_at hl 12 rfl) ?_
    refine lv_if_eq (tgt := 203) hx hb dL_law_195 (by decide) (fun c164 => ?_) (fun c164 => ?_)
    · have h := (if_pos c164).symm.trans h
      refine lv_iload hx hb dL_law_203 (lv_at hl 9 rfl) ?_
      obtain ⟨q165, e166, h⟩ := ob h
      refine fr_iG (M := mainC cyI cyO cyL ad had cs) (M' := mainC cyI cyO cyL ad had q165.2) (L' := (((arrW cyI aq 4 qv) ++ (arrW cyI ak 24 kev) ++ (arrW cyI ab 12 bov) ++ (arrW cyI aw 64 wrv) ++ (larrW cyL ao 2 opv)) ++ mainC cyI cyO cyL ad had q165.2)) (F := ((arrW cyI aq 4 qv) ++ (arrW cyI ak 24 kev) ++ (arrW cyI ab 12 bov) ++ (arrW cyI aw 64 wrv) ++ (larrW cyL ao 2 opv))) (va_runV (As := [.int y10]) (rest := []) ⟨hx, hb, hml, hown, hts⟩ (uX7_key l dC dI cyI cyO cyL ad had cs q165.2 y10 q165.1 e166 _) (cwV 1 hts (gVL ml_L_94 im_X7_key se_X7_key in_X7 co_X7_key) rfl rfl rfl (by decide +kernel) ⟨Nat.le_of_ble_eq_true rfl, Nat.le_of_ble_eq_true rfl⟩) (cP_VG hK hP hD List.perm_append_comm 0 rfl rfl) rfl rfl hl.1 rfl (lv_room (Nat.le_of_ble_eq_true rfl)) dL_law_205 ⟨Nat.le_of_ble_eq_true rfl, Nat.le_of_ble_eq_true rfl⟩) hP hD hS hA List.perm_append_comm List.perm_append_comm mainC_ads (fun H locs hP hD hS => ?_)
      refine lv_iload hx hb dL_law_208 (lv_at hl 12 rfl) ?_
      refine lv_if_ne (tgt := 218) hx hb dL_law_210 (by decide) (fun c167 => ?_) (fun c167 => ?_)
      · have h := (if_neg c167).symm.trans h
        refine lv_aload_n hx hb dL_law_218 rfl (lv_at hl 2 rfl) ?_
        refine lv_iconst (v := 1) hx hb dL_law_219 (by decide) ?_
        obtain ⟨ni168, h⟩ := ifn h
        refine va_iald hx hb hK.1 hP 0 0 rfl rfl ni168 dL_law_220 ?_
        refine lv_goto (tgt := 235) hx hb dL_law_221 (by decide) ?_
        exact kB235 k42 hk42 qv kev bov wrv opv q165.2 y7 y8 y10 y12 y13 q165.1 (qv (1 : Int32).toNatClampNeg) h _ _ hP hD hS ls (lv_sub hl [0, 1, 2, 3, 4, 5, 6, 7, 8, 9, 11, 12] rfl)
      · have h := (if_pos c167).symm.trans h
        refine lv_iload hx hb dL_law_213 (lv_at hl 11 rfl) ?_
        refine lv_if_eq (tgt := 224) hx hb dL_law_215 (by decide) (fun c169 => ?_) (fun c169 => ?_)
        · have h := (if_pos c169).symm.trans h
          refine lv_iload hx hb dL_law_224 (lv_at hl 10 rfl) ?_
          refine lv_if_eq (tgt := 234) hx hb dL_law_226 (by decide) (fun c170 => ?_) (fun c170 => ?_)
          · have h := (if_pos c170).symm.trans h
            refine lv_iconst (v := (-1)) hx hb dL_law_234 (by decide) ?_
            exact kB235 k42 hk42 qv kev bov wrv opv q165.2 y7 y8 y10 y12 y13 q165.1 (-1) h _ _ hP hD hS ls (lv_sub hl [0, 1, 2, 3, 4, 5, 6, 7, 8, 9, 11, 12] rfl)
          · have h := (if_neg c170).symm.trans h
            refine lv_bipush (v := (-5)) hx hb dL_law_229 (by decide) ?_
            refine lv_goto (tgt := 235) hx hb dL_law_231 (by decide) ?_
            exact kB235 k42 hk42 qv kev bov wrv opv q165.2 y7 y8 y10 y12 y13 q165.1 (-5) h _ _ hP hD hS ls (lv_sub hl [0, 1, 2, 3, 4, 5, 6, 7, 8, 9, 11, 12] rfl)
        · have h := (if_neg c169).symm.trans h
          refine lv_aload_n hx hb dL_law_218 rfl (lv_at hl 2 rfl) ?_
          refine lv_iconst (v := 1) hx hb dL_law_219 (by decide) ?_
          obtain ⟨ni171, h⟩ := ifn h
          refine va_iald hx hb hK.1 hP 0 0 rfl rfl ni171 dL_law_220 ?_
          refine lv_goto (tgt := 235) hx hb dL_law_221 (by decide) ?_
          exact kB235 k42 hk42 qv kev bov wrv opv q165.2 y7 y8 y10 y12 y13 q165.1 (qv (1 : Int32).toNatClampNeg) h _ _ hP hD hS ls (lv_sub hl [0, 1, 2, 3, 4, 5, 6, 7, 8, 9, 11, 12] rfl)
    · have h := (if_neg c164).symm.trans h
      refine lv_bipush (v := (-6)) hx hb dL_law_198 (by decide) ?_
      refine lv_goto (tgt := 205) hx hb dL_law_200 (by decide) ?_
      obtain ⟨q172, e173, h⟩ := ob h
      refine fr_iG (M := mainC cyI cyO cyL ad had cs) (M' := mainC cyI cyO cyL ad had q172.2) (L' := (((arrW cyI aq 4 qv) ++ (arrW cyI ak 24 kev) ++ (arrW cyI ab 12 bov) ++ (arrW cyI aw 64 wrv) ++ (larrW cyL ao 2 opv)) ++ mainC cyI cyO cyL ad had q172.2)) (F := ((arrW cyI aq 4 qv) ++ (arrW cyI ak 24 kev) ++ (arrW cyI ab 12 bov) ++ (arrW cyI aw 64 wrv) ++ (larrW cyL ao 2 opv))) (va_runV (As := [.int (-6)]) (rest := []) ⟨hx, hb, hml, hown, hts⟩ (uX7_key l dC dI cyI cyO cyL ad had cs q172.2 (-6) q172.1 e173 _) (cwV 1 hts (gVL ml_L_94 im_X7_key se_X7_key in_X7 co_X7_key) rfl rfl rfl (by decide +kernel) ⟨Nat.le_of_ble_eq_true rfl, Nat.le_of_ble_eq_true rfl⟩) (cP_VG hK hP hD List.perm_append_comm 0 rfl rfl) rfl rfl hl.1 rfl (lv_room (Nat.le_of_ble_eq_true rfl)) dL_law_205 ⟨Nat.le_of_ble_eq_true rfl, Nat.le_of_ble_eq_true rfl⟩) hP hD hS hA List.perm_append_comm List.perm_append_comm mainC_ads (fun H locs hP hD hS => ?_)
      refine lv_iload hx hb dL_law_208 (lv_at hl 12 rfl) ?_
      refine lv_if_ne (tgt := 218) hx hb dL_law_210 (by decide) (fun c174 => ?_) (fun c174 => ?_)
      · have h := (if_neg c174).symm.trans h
        refine lv_aload_n hx hb dL_law_218 rfl (lv_at hl 2 rfl) ?_
        refine lv_iconst (v := 1) hx hb dL_law_219 (by decide) ?_
        obtain ⟨ni175, h⟩ := ifn h
        refine va_iald hx hb hK.1 hP 0 0 rfl rfl ni175 dL_law_220 ?_
        refine lv_goto (tgt := 235) hx hb dL_law_221 (by decide) ?_
        exact kB235 k42 hk42 qv kev bov wrv opv q172.2 y7 y8 y10 y12 y13 q172.1 (qv (1 : Int32).toNatClampNeg) h _ _ hP hD hS ls (lv_sub hl [0, 1, 2, 3, 4, 5, 6, 7, 8, 9, 11, 12] rfl)
      · have h := (if_pos c174).symm.trans h
        refine lv_iload hx hb dL_law_213 (lv_at hl 11 rfl) ?_
        refine lv_if_eq (tgt := 224) hx hb dL_law_215 (by decide) (fun c176 => ?_) (fun c176 => ?_)
        · have h := (if_pos c176).symm.trans h
          refine lv_iload hx hb dL_law_224 (lv_at hl 10 rfl) ?_
          refine lv_if_eq (tgt := 234) hx hb dL_law_226 (by decide) (fun c177 => ?_) (fun c177 => ?_)
          · have h := (if_pos c177).symm.trans h
            refine lv_iconst (v := (-1)) hx hb dL_law_234 (by decide) ?_
            exact kB235 k42 hk42 qv kev bov wrv opv q172.2 y7 y8 y10 y12 y13 q172.1 (-1) h _ _ hP hD hS ls (lv_sub hl [0, 1, 2, 3, 4, 5, 6, 7, 8, 9, 11, 12] rfl)
          · have h := (if_neg c177).symm.trans h
            refine lv_bipush (v := (-5)) hx hb dL_law_229 (by decide) ?_
            refine lv_goto (tgt := 235) hx hb dL_law_231 (by decide) ?_
            exact kB235 k42 hk42 qv kev bov wrv opv q172.2 y7 y8 y10 y12 y13 q172.1 (-5) h _ _ hP hD hS ls (lv_sub hl [0, 1, 2, 3, 4, 5, 6, 7, 8, 9, 11, 12] rfl)
        · have h := (if_neg c176).symm.trans h
          refine lv_aload_n hx hb dL_law_218 rfl (lv_at hl 2 rfl) ?_
          refine lv_iconst (v := 1) hx hb dL_law_219 (by decide) ?_
          obtain ⟨ni178, h⟩ := ifn h
          refine va_iald hx hb hK.1 hP 0 0 rfl rfl ni178 dL_law_220 ?_
          refine lv_goto (tgt := 235) hx hb dL_law_221 (by decide) ?_
          exact kB235 k42 hk42 qv kev bov wrv opv q172.2 y7 y8 y10 y12 y13 q172.1 (qv (1 : Int32).toNatClampNeg) h _ _ hP hD hS ls (lv_sub hl [0, 1, 2, 3, 4, 5, 6, 7, 8, 9, 11, 12] rfl)
  have kB190 : ∀ (k42 : (Nat → Int32) → (Nat → Int32) → (Nat → Int32) → (Nat → Int32) → (Nat → Int64) → CS → Int32 → Option (Int32)) (hk42 : ∀ (qv : Nat → Int32) (kev : Nat → Int32) (bov : Nat → Int32) (wrv : Nat → Int32) (opv : Nat → Int64) (cs : CS) (y7 : Int32), k42 qv kev bov wrv opv cs y7 = some 1 → ∀ (H : Heap) (locs : List Loc), va_P (dC, dI) vwCl (((arrW cyI aq 4 qv) ++ (arrW cyI ak 24 kev) ++ (arrW cyI ab 12 bov) ++ (arrW cyI aw 64 wrv) ++ (larrW cyL ao 2 opv)) ++ mainC cyI cyO cyL ad had cs) H → va_D A (((arrW cyI aq 4 qv) ++ (arrW cyI ak 24 kev) ++ (arrW cyI ab 12 bov) ++ (arrW cyI aw 64 wrv) ++ (larrW cyL ao 2 opv)) ++ mainC cyI cyO cyL ad had cs) → va_S A s.heap H locs → ∀ ls : Array Slot, lv_has ls 21 [(0, .ref b), (1, .ref (ad 0)), (2, .ref aq), (3, .ref ak), (4, .ref ab), (5, .ref aw), (6, .ref ao), (7, .int y7)] → W p l e room_1 s m (#[Value.ref b]) below meth c H locs 185 5982 (lw_Z below #[Value.ref b] s) (F0 m 42 ls [])) (qv : Nat → Int32) (kev : Nat → Int32) (bov : Nat → Int32) (wrv : Nat → Int32) (opv : Nat → Int64) (cs : CS) (y7 : Int32) (y8 : Int32) (y10 : Int32) (y11 : Int32) (y12 : Int32) (z0 : Int32), fL_law_b190 L xs k42 qv kev bov wrv opv cs y7 y8 y10 y11 y12 z0 = some 1 → ∀ (H : Heap) (locs : List Loc), va_P (dC, dI) vwCl (((arrW cyI aq 4 qv) ++ (arrW cyI ak 24 kev) ++ (arrW cyI ab 12 bov) ++ (arrW cyI aw 64 wrv) ++ (larrW cyL ao 2 opv)) ++ mainC cyI cyO cyL ad had cs) H → va_D A (((arrW cyI aq 4 qv) ++ (arrW cyI ak 24 kev) ++ (arrW cyI ab 12 bov) ++ (arrW cyI aw 64 wrv) ++ (larrW cyL ao 2 opv)) ++ mainC cyI cyO cyL ad had cs) → va_S A s.heap H locs → ∀ ls : Array Slot, lv_has ls 21 [(0, .ref b), (1, .ref (ad 0)), (2, .ref aq), (3, .ref ak), (4, .ref ab), (5, .ref aw), (6, .ref ao), (7, .int y7), (8, .int y8), (10, .int y10), (11, .int y11), (12, .int y12)] → W p l e room_1 s m (#[Value.ref b]) below meth c H locs 185 5982 (lw_Z below #[Value.ref b] s) (F0 m 190 ls [.int z0]) := by
    intro k42 hk42 qv kev bov wrv opv cs y7 y8 y10 y11 y12 z0 h H locs hP hD hS ls hl
    unfold fL_law_b190 at h
    refine lv_istore (lv' := [(13, .int z0), (0, .ref b), (1, .ref (ad 0)), (2, .ref aq), (3, .ref ak), (4, .ref ab), (5, .ref aw), (6, .ref ao), (7, .int y7), (8, .int y8), (10, .int y10), (11, .int y11), (12, .int y12)]) hx hb dL_law_190 hl (by decide) rfl (fun ls hl => ?_)
    exact kB192 k42 hk42 qv kev bov wrv opv cs y7 y8 y10 y11 y12 z0 h _ _ hP hD hS ls (lv_sub hl [1, 2, 3, 4, 5, 6, 7, 8, 9, 10, 11, 12, 0] rfl)
  have kB167 : ∀ (k42 : (Nat → Int32) → (Nat → Int32) → (Nat → Int32) → (Nat → Int32) → (Nat → Int64) → CS → Int32 → Option (Int32)) (hk42 : ∀ (qv : Nat → Int32) (kev : Nat → Int32) (bov : Nat → Int32) (wrv : Nat → Int32) (opv : Nat → Int64) (cs : CS) (y7 : Int32), k42 qv kev bov wrv opv cs y7 = some 1 → ∀ (H : Heap) (locs : List Loc), va_P (dC, dI) vwCl (((arrW cyI aq 4 qv) ++ (arrW cyI ak 24 kev) ++ (arrW cyI ab 12 bov) ++ (arrW cyI aw 64 wrv) ++ (larrW cyL ao 2 opv)) ++ mainC cyI cyO cyL ad had cs) H → va_D A (((arrW cyI aq 4 qv) ++ (arrW cyI ak 24 kev) ++ (arrW cyI ab 12 bov) ++ (arrW cyI aw 64 wrv) ++ (larrW cyL ao 2 opv)) ++ mainC cyI cyO cyL ad had cs) → va_S A s.heap H locs → ∀ ls : Array Slot, lv_has ls 21 [(0, .ref b), (1, .ref (ad 0)), (2, .ref aq), (3, .ref ak), (4, .ref ab), (5, .ref aw), (6, .ref ao), (7, .int y7)] → W p l e room_1 s m (#[Value.ref b]) below meth c H locs 185 5982 (lw_Z below #[Value.ref b] s) (F0 m 42 ls [])) (qv : Nat → Int32) (kev : Nat → Int32) (bov : Nat → Int32) (wrv : Nat → Int32) (opv : Nat → Int64) (cs : CS) (y7 : Int32) (y8 : Int32) (y10 : Int32) (y11 : Int32) (y12 : Int32), fL_law_b167 L xs k42 qv kev bov wrv opv cs y7 y8 y10 y11 y12 = some 1 → ∀ (H : Heap) (locs : List Loc), va_P (dC, dI) vwCl (((arrW cyI aq 4 qv) ++ (arrW cyI ak 24 kev) ++ (arrW cyI ab 12 bov) ++ (arrW cyI aw 64 wrv) ++ (larrW cyL ao 2 opv)) ++ mainC cyI cyO cyL ad had cs) H → va_D A (((arrW cyI aq 4 qv) ++ (arrW cyI ak 24 kev) ++ (arrW cyI ab 12 bov) ++ (arrW cyI aw 64 wrv) ++ (larrW cyL ao 2 opv)) ++ mainC cyI cyO cyL ad had cs) → va_S A s.heap H locs → ∀ ls : Array Slot, lv_has ls 21 [(0, .ref b), (1, .ref (ad 0)), (2, .ref aq), (3, .ref ak), (4, .ref ab), (5, .ref aw), (6, .ref ao), (7, .int y7), (8, .int y8), (10, .int y10), (11, .int y11), (12, .int y12)] → W p l e room_1 s m (#[Value.ref b]) below meth c H locs 185 5982 (lw_Z below #[Value.ref b] s) (F0 m 167 ls []) := by
    intro k42 hk42 qv kev bov wrv opv cs y7 y8 y10 y11 y12 h H locs hP hD hS ls hl
    unfold fL_law_b167 at h
    refine lv_aload_n hx hb dL_law_167 rfl (lv_at hl 2 rfl) ?_
    refine lv_iconst (v := 1) hx hb dL_law_168 (by decide) ?_
    obtain ⟨ni179, h⟩ := ifn h
    refine va_iald hx hb hK.1 hP 0 0 rfl rfl ni179 dL_law_169 ?_
    refine lv_if_eq (tgt := 185) hx hb dL_law_170 (by decide) (fun c180 => ?_) (fun c180 => ?_)
    · have h := (if_pos c180).symm.trans h
      refine lv_iconst (v := 1) hx hb dL_law_185 (by decide) ?_
      refine lv_goto (tgt := 190) hx hb dL_law_186 (by decide) ?_
      exact kB190 k42 hk42 qv kev bov wrv opv cs y7 y8 y10 y11 y12 1 h _ _ hP hD hS ls (lv_sub hl [0, 1, 2, 3, 4, 5, 6, 7, 8, 9, 10, 11] rfl)
    · have h := (if_neg c180).symm.trans h
      refine lv_iload hx hb dL_law_173 (lv_at hl 8 rfl) ?_
      refine lv_bipush (v := 7) hx hb dL_law_175 (by decide) ?_
      refine lv_ishr hx hb dL_law_177 ?_
      refine lv_iconst (v := 5) hx hb dL_law_178 (by decide) ?_
      obtain ⟨q181, e182, h⟩ := ob h
      refine fr_ir (M := ([] : va_W)) (va_runS (As := [.int (y8 >>> ((7 : Int32) &&& 31)), .int 5]) (rest := []) ⟨hx, hb, hml, hown, hts⟩ (mL_low l dC dI cyI cyO cyL (y8 >>> ((7 : Int32) &&& 31)) 5 _ q181 e182) (va_cwS 2 hts (gSL ml_L_60 st_L_low in_L co_L_low) rfl rfl rfl (by decide +kernel) ⟨Nat.le_of_ble_eq_true rfl, Nat.le_of_ble_eq_true rfl⟩) (cP_S hK hP hD [] rfl rfl) rfl rfl hl.1 rfl (lv_room (Nat.le_of_ble_eq_true rfl)) dL_law_179 ⟨Nat.le_of_ble_eq_true rfl, Nat.le_of_ble_eq_true rfl⟩) hP hD hS hA [] rfl (fun H locs hP hS => ?_)
      refine lv_if_ne (tgt := 189) hx hb dL_law_182 (by decide) (fun c183 => ?_) (fun c183 => ?_)
      · have h := (if_neg c183).symm.trans h
        refine lv_iconst (v := 0) hx hb dL_law_189 (by decide) ?_
        exact kB190 k42 hk42 qv kev bov wrv opv cs y7 y8 y10 y11 y12 0 h _ _ hP hD hS ls (lv_sub hl [0, 1, 2, 3, 4, 5, 6, 7, 8, 9, 10, 11] rfl)
      · have h := (if_pos c183).symm.trans h
        refine lv_iconst (v := 1) hx hb dL_law_185 (by decide) ?_
        refine lv_goto (tgt := 190) hx hb dL_law_186 (by decide) ?_
        exact kB190 k42 hk42 qv kev bov wrv opv cs y7 y8 y10 y11 y12 1 h _ _ hP hD hS ls (lv_sub hl [0, 1, 2, 3, 4, 5, 6, 7, 8, 9, 10, 11] rfl)
  have kB156 : ∀ (k42 : (Nat → Int32) → (Nat → Int32) → (Nat → Int32) → (Nat → Int32) → (Nat → Int64) → CS → Int32 → Option (Int32)) (hk42 : ∀ (qv : Nat → Int32) (kev : Nat → Int32) (bov : Nat → Int32) (wrv : Nat → Int32) (opv : Nat → Int64) (cs : CS) (y7 : Int32), k42 qv kev bov wrv opv cs y7 = some 1 → ∀ (H : Heap) (locs : List Loc), va_P (dC, dI) vwCl (((arrW cyI aq 4 qv) ++ (arrW cyI ak 24 kev) ++ (arrW cyI ab 12 bov) ++ (arrW cyI aw 64 wrv) ++ (larrW cyL ao 2 opv)) ++ mainC cyI cyO cyL ad had cs) H → va_D A (((arrW cyI aq 4 qv) ++ (arrW cyI ak 24 kev) ++ (arrW cyI ab 12 bov) ++ (arrW cyI aw 64 wrv) ++ (larrW cyL ao 2 opv)) ++ mainC cyI cyO cyL ad had cs) → va_S A s.heap H locs → ∀ ls : Array Slot, lv_has ls 21 [(0, .ref b), (1, .ref (ad 0)), (2, .ref aq), (3, .ref ak), (4, .ref ab), (5, .ref aw), (6, .ref ao), (7, .int y7)] → W p l e room_1 s m (#[Value.ref b]) below meth c H locs 185 5982 (lw_Z below #[Value.ref b] s) (F0 m 42 ls [])) (qv : Nat → Int32) (kev : Nat → Int32) (bov : Nat → Int32) (wrv : Nat → Int32) (opv : Nat → Int64) (cs : CS) (y7 : Int32) (y8 : Int32) (y10 : Int32) (y11 : Int32) (y12 : Int32), fL_law_b156 L xs k42 qv kev bov wrv opv cs y7 y8 y10 y11 y12 = some 1 → ∀ (H : Heap) (locs : List Loc), va_P (dC, dI) vwCl (((arrW cyI aq 4 qv) ++ (arrW cyI ak 24 kev) ++ (arrW cyI ab 12 bov) ++ (arrW cyI aw 64 wrv) ++ (larrW cyL ao 2 opv)) ++ mainC cyI cyO cyL ad had cs) H → va_D A (((arrW cyI aq 4 qv) ++ (arrW cyI ak 24 kev) ++ (arrW cyI ab 12 bov) ++ (arrW cyI aw 64 wrv) ++ (larrW cyL ao 2 opv)) ++ mainC cyI cyO cyL ad had cs) → va_S A s.heap H locs → ∀ ls : Array Slot, lv_has ls 21 [(0, .ref b), (1, .ref (ad 0)), (2, .ref aq), (3, .ref ak), (4, .ref ab), (5, .ref aw), (6, .ref ao), (7, .int y7), (8, .int y8), (10, .int y10), (11, .int y11), (12, .int y12)] → W p l e room_1 s m (#[Value.ref b]) below meth c H locs 185 5982 (lw_Z below #[Value.ref b] s) (F0 m 156 ls []) := by
    intro k42 hk42 qv kev bov wrv opv cs y7 y8 y10 y11 y12 h H locs hP hD hS ls hl
    unfold fL_law_b156 at h
    refine lv_aload_n hx hb dL_law_156 rfl (lv_at hl 2 rfl) ?_
    refine lv_iconst (v := 1) hx hb dL_law_157 (by decide) ?_
    obtain ⟨ni184, h⟩ := ifn h
    refine va_iald hx hb hK.1 hP 0 0 rfl rfl ni184 dL_law_158 ?_
    refine lv_bipush (v := 6) hx hb dL_law_159 (by decide) ?_
    refine lv_icmp_ne (tgt := 167) hx hb dL_law_161 (by decide) (fun c185 => ?_) (fun c185 => ?_)
    · have h := (if_neg c185).symm.trans h
      exact kB167 k42 hk42 qv kev bov wrv opv cs y7 y8 y10 y11 y12 h _ _ hP hD hS ls (lv_sub hl [0, 1, 2, 3, 4, 5, 6, 7, 8, 9, 10, 11] rfl)
    · have h := (if_pos c185).symm.trans h
      refine lv_goto (tgt := 1229) hx hb dL_law_164 (by decide) ?_
      exact kB1229 k42 hk42 qv kev bov wrv opv cs y7 h _ _ hP hD hS ls (lv_sub hl [0, 1, 2, 3, 4, 5, 6, 7] rfl)
  have kB150 : ∀ (k42 : (Nat → Int32) → (Nat → Int32) → (Nat → Int32) → (Nat → Int32) → (Nat → Int64) → CS → Int32 → Option (Int32)) (hk42 : ∀ (qv : Nat → Int32) (kev : Nat → Int32) (bov : Nat → Int32) (wrv : Nat → Int32) (opv : Nat → Int64) (cs : CS) (y7 : Int32), k42 qv kev bov wrv opv cs y7 = some 1 → ∀ (H : Heap) (locs : List Loc), va_P (dC, dI) vwCl (((arrW cyI aq 4 qv) ++ (arrW cyI ak 24 kev) ++ (arrW cyI ab 12 bov) ++ (arrW cyI aw 64 wrv) ++ (larrW cyL ao 2 opv)) ++ mainC cyI cyO cyL ad had cs) H → va_D A (((arrW cyI aq 4 qv) ++ (arrW cyI ak 24 kev) ++ (arrW cyI ab 12 bov) ++ (arrW cyI aw 64 wrv) ++ (larrW cyL ao 2 opv)) ++ mainC cyI cyO cyL ad had cs) → va_S A s.heap H locs → ∀ ls : Array Slot, lv_has ls 21 [(0, .ref b), (1, .ref (ad 0)), (2, .ref aq), (3, .ref ak), (4, .ref ab), (5, .ref aw), (6, .ref ao), (7, .int y7)] → W p l e room_1 s m (#[Value.ref b]) below meth c H locs 185 5982 (lw_Z below #[Value.ref b] s) (F0 m 42 ls [])) (qv : Nat → Int32) (kev : Nat → Int32) (bov : Nat → Int32) (wrv : Nat → Int32) (opv : Nat → Int64) (cs : CS) (y7 : Int32) (y8 : Int32) (y9 : Int32) (y10 : Int32) (y11 : Int32) (y12 : Int32), fL_law_b150 L xs k42 qv kev bov wrv opv cs y7 y8 y9 y10 y11 y12 = some 1 → ∀ (H : Heap) (locs : List Loc), va_P (dC, dI) vwCl (((arrW cyI aq 4 qv) ++ (arrW cyI ak 24 kev) ++ (arrW cyI ab 12 bov) ++ (arrW cyI aw 64 wrv) ++ (larrW cyL ao 2 opv)) ++ mainC cyI cyO cyL ad had cs) H → va_D A (((arrW cyI aq 4 qv) ++ (arrW cyI ak 24 kev) ++ (arrW cyI ab 12 bov) ++ (arrW cyI aw 64 wrv) ++ (larrW cyL ao 2 opv)) ++ mainC cyI cyO cyL ad had cs) → va_S A s.heap H locs → ∀ ls : Array Slot, lv_has ls 21 [(0, .ref b), (1, .ref (ad 0)), (2, .ref aq), (3, .ref ak), (4, .ref ab), (5, .ref aw), (6, .ref ao), (7, .int y7), (8, .int y8), (9, .int y9), (10, .int y10), (11, .int y11), (12, .int y12)] → W p l e room_1 s m (#[Value.ref b]) below meth c H locs 185 5982 (lw_Z below #[Value.ref b] s) (F0 m 150 ls []) := by
    intro k42 hk42 qv kev bov wrv opv cs y7 y8 y9 y10 y11 y12 h H locs hP hD hS ls hl
    unfold fL_law_b150 at h
    refine lv_iload hx hb dL_law_150 (lv_at hl 9 rfl) ?_
    refine lv_iconst (v := 3) hx hb dL_law_152 (by decide) ?_
    refine lv_icmp_ge (tgt := 312) hx hb dL_law_153 (by decide) (fun c186 => ?_) (fun c186 => ?_)
    · have h := (if_pos c186).symm.trans h
      refine lv_iload hx hb dL_law_312 (lv_at hl 9 rfl) ?_
      refine lv_iconst (v := 3) hx hb dL_law_314 (by decide) ?_
      refine lv_icmp_eq (tgt := 324) hx hb dL_law_315 (by decide) (fun c187 => ?_) (fun c187 => ?_)
      · have h := (if_pos c187).symm.trans h
        exact kB324 k42 hk42 qv kev bov wrv opv cs y7 y8 y10 y11 y12 h _ _ hP hD hS ls (lv_sub hl [0, 1, 2, 3, 4, 5, 6, 7, 8, 10, 11, 12] rfl)
      · have h := (if_neg c187).symm.trans h
        refine lv_iload hx hb dL_law_318 (lv_at hl 9 rfl) ?_
        refine lv_iconst (v := 4) hx hb dL_law_320 (by decide) ?_
        refine lv_icmp_ne (tgt := 419) hx hb dL_law_321 (by decide) (fun c188 => ?_) (fun c188 => ?_)
        · have h := (if_neg c188).symm.trans h
          refine lv_iload hx hb dL_law_419 (lv_at hl 9 rfl) ?_
          refine lv_iconst (v := 5) hx hb dL_law_421 (by decide) ?_
          refine lv_icmp_ne (tgt := 609) hx hb dL_law_422 (by decide) (fun c189 => ?_) (fun c189 => ?_)
          · have h := (if_neg c189).symm.trans h
            exact kB609 k42 hk42 qv kev bov wrv opv cs y7 y8 y9 y10 y11 h _ _ hP hD hS ls (lv_sub hl [0, 1, 2, 3, 4, 5, 6, 7, 8, 9, 10, 11] rfl)
          · have h := (if_pos c189).symm.trans h
            exact kB425 k42 hk42 qv kev bov wrv opv cs y7 y8 y9 y10 y11 h _ _ hP hD hS ls (lv_sub hl [0, 1, 2, 3, 4, 5, 6, 7, 8, 9, 10, 11] rfl)
        · have h := (if_pos c188).symm.trans h
          exact kB324 k42 hk42 qv kev bov wrv opv cs y7 y8 y10 y11 y12 h _ _ hP hD hS ls (lv_sub hl [0, 1, 2, 3, 4, 5, 6, 7, 8, 10, 11, 12] rfl)
    · have h := (if_neg c186).symm.trans h
      exact kB156 k42 hk42 qv kev bov wrv opv cs y7 y8 y10 y11 y12 h _ _ hP hD hS ls (lv_sub hl [0, 1, 2, 3, 4, 5, 6, 7, 8, 10, 11, 12] rfl)
  have kB139 : ∀ (k42 : (Nat → Int32) → (Nat → Int32) → (Nat → Int32) → (Nat → Int32) → (Nat → Int64) → CS → Int32 → Option (Int32)) (hk42 : ∀ (qv : Nat → Int32) (kev : Nat → Int32) (bov : Nat → Int32) (wrv : Nat → Int32) (opv : Nat → Int64) (cs : CS) (y7 : Int32), k42 qv kev bov wrv opv cs y7 = some 1 → ∀ (H : Heap) (locs : List Loc), va_P (dC, dI) vwCl (((arrW cyI aq 4 qv) ++ (arrW cyI ak 24 kev) ++ (arrW cyI ab 12 bov) ++ (arrW cyI aw 64 wrv) ++ (larrW cyL ao 2 opv)) ++ mainC cyI cyO cyL ad had cs) H → va_D A (((arrW cyI aq 4 qv) ++ (arrW cyI ak 24 kev) ++ (arrW cyI ab 12 bov) ++ (arrW cyI aw 64 wrv) ++ (larrW cyL ao 2 opv)) ++ mainC cyI cyO cyL ad had cs) → va_S A s.heap H locs → ∀ ls : Array Slot, lv_has ls 21 [(0, .ref b), (1, .ref (ad 0)), (2, .ref aq), (3, .ref ak), (4, .ref ab), (5, .ref aw), (6, .ref ao), (7, .int y7)] → W p l e room_1 s m (#[Value.ref b]) below meth c H locs 185 5982 (lw_Z below #[Value.ref b] s) (F0 m 42 ls [])) (qv : Nat → Int32) (kev : Nat → Int32) (bov : Nat → Int32) (wrv : Nat → Int32) (opv : Nat → Int64) (cs : CS) (y7 : Int32) (y8 : Int32) (y9 : Int32) (y10 : Int32) (y11 : Int32) (y12 : Int32), fL_law_b139 L xs k42 qv kev bov wrv opv cs y7 y8 y9 y10 y11 y12 = some 1 → ∀ (H : Heap) (locs : List Loc), va_P (dC, dI) vwCl (((arrW cyI aq 4 qv) ++ (arrW cyI ak 24 kev) ++ (arrW cyI ab 12 bov) ++ (arrW cyI aw 64 wrv) ++ (larrW cyL ao 2 opv)) ++ mainC cyI cyO cyL ad had cs) H → va_D A (((arrW cyI aq 4 qv) ++ (arrW cyI ak 24 kev) ++ (arrW cyI ab 12 bov) ++ (arrW cyI aw 64 wrv) ++ (larrW cyL ao 2 opv)) ++ mainC cyI cyO cyL ad had cs) → va_S A s.heap H locs → ∀ ls : Array Slot, lv_has ls 21 [(0, .ref b), (1, .ref (ad 0)), (2, .ref aq), (3, .ref ak), (4, .ref ab), (5, .ref aw), (6, .ref ao), (7, .int y7), (8, .int y8), (9, .int y9), (10, .int y10), (11, .int y11), (12, .int y12)] → W p l e room_1 s m (#[Value.ref b]) below meth c H locs 185 5982 (lw_Z below #[Value.ref b] s) (F0 m 139 ls []) := by
    intro k42 hk42 qv kev bov wrv opv cs y7 y8 y9 y10 y11 y12 h H locs hP hD hS ls hl
    unfold fL_law_b139 at h
    refine lv_aload_n hx hb dL_law_139 rfl (lv_at hl 2 rfl) ?_
    refine lv_iconst (v := 3) hx hb dL_law_140 (by decide) ?_
    obtain ⟨ni190, h⟩ := ifn h
    refine va_iald hx hb hK.1 hP 0 0 rfl rfl ni190 dL_law_141 ?_
    refine lv_bipush (v := 50) hx hb dL_law_142 (by decide) ?_
    refine lv_icmp_le (tgt := 150) hx hb dL_law_144 (by decide) (fun c191 => ?_) (fun c191 => ?_)
    · have h := (if_pos c191).symm.trans h
      exact kB150 k42 hk42 qv kev bov wrv opv cs y7 y8 y9 y10 y11 y12 h _ _ hP hD hS ls (lv_sub hl [0, 1, 2, 3, 4, 5, 6, 7, 8, 9, 10, 11, 12] rfl)
    · have h := (if_neg c191).symm.trans h
      refine lv_goto (tgt := 1229) hx hb dL_law_147 (by decide) ?_
      exact kB1229 k42 hk42 qv kev bov wrv opv cs y7 h _ _ hP hD hS ls (lv_sub hl [0, 1, 2, 3, 4, 5, 6, 7] rfl)
  have kB137 : ∀ (k42 : (Nat → Int32) → (Nat → Int32) → (Nat → Int32) → (Nat → Int32) → (Nat → Int64) → CS → Int32 → Option (Int32)) (hk42 : ∀ (qv : Nat → Int32) (kev : Nat → Int32) (bov : Nat → Int32) (wrv : Nat → Int32) (opv : Nat → Int64) (cs : CS) (y7 : Int32), k42 qv kev bov wrv opv cs y7 = some 1 → ∀ (H : Heap) (locs : List Loc), va_P (dC, dI) vwCl (((arrW cyI aq 4 qv) ++ (arrW cyI ak 24 kev) ++ (arrW cyI ab 12 bov) ++ (arrW cyI aw 64 wrv) ++ (larrW cyL ao 2 opv)) ++ mainC cyI cyO cyL ad had cs) H → va_D A (((arrW cyI aq 4 qv) ++ (arrW cyI ak 24 kev) ++ (arrW cyI ab 12 bov) ++ (arrW cyI aw 64 wrv) ++ (larrW cyL ao 2 opv)) ++ mainC cyI cyO cyL ad had cs) → va_S A s.heap H locs → ∀ ls : Array Slot, lv_has ls 21 [(0, .ref b), (1, .ref (ad 0)), (2, .ref aq), (3, .ref ak), (4, .ref ab), (5, .ref aw), (6, .ref ao), (7, .int y7)] → W p l e room_1 s m (#[Value.ref b]) below meth c H locs 185 5982 (lw_Z below #[Value.ref b] s) (F0 m 42 ls [])) (qv : Nat → Int32) (kev : Nat → Int32) (bov : Nat → Int32) (wrv : Nat → Int32) (opv : Nat → Int64) (cs : CS) (y7 : Int32) (y8 : Int32) (y9 : Int32) (y10 : Int32) (y11 : Int32) (z0 : Int32), fL_law_b137 L xs k42 qv kev bov wrv opv cs y7 y8 y9 y10 y11 z0 = some 1 → ∀ (H : Heap) (locs : List Loc), va_P (dC, dI) vwCl (((arrW cyI aq 4 qv) ++ (arrW cyI ak 24 kev) ++ (arrW cyI ab 12 bov) ++ (arrW cyI aw 64 wrv) ++ (larrW cyL ao 2 opv)) ++ mainC cyI cyO cyL ad had cs) H → va_D A (((arrW cyI aq 4 qv) ++ (arrW cyI ak 24 kev) ++ (arrW cyI ab 12 bov) ++ (arrW cyI aw 64 wrv) ++ (larrW cyL ao 2 opv)) ++ mainC cyI cyO cyL ad had cs) → va_S A s.heap H locs → ∀ ls : Array Slot, lv_has ls 21 [(0, .ref b), (1, .ref (ad 0)), (2, .ref aq), (3, .ref ak), (4, .ref ab), (5, .ref aw), (6, .ref ao), (7, .int y7), (8, .int y8), (9, .int y9), (10, .int y10), (11, .int y11)] → W p l e room_1 s m (#[Value.ref b]) below meth c H locs 185 5982 (lw_Z below #[Value.ref b] s) (F0 m 137 ls [.int z0]) := by
    intro k42 hk42 qv kev bov wrv opv cs y7 y8 y9 y10 y11 z0 h H locs hP hD hS ls hl
    unfold fL_law_b137 at h
    refine lv_istore (lv' := [(12, .int z0), (0, .ref b), (1, .ref (ad 0)), (2, .ref aq), (3, .ref ak), (4, .ref ab), (5, .ref aw), (6, .ref ao), (7, .int y7), (8, .int y8), (9, .int y9), (10, .int y10), (11, .int y11)]) hx hb dL_law_137 hl (by decide) rfl (fun ls hl => ?_)
    exact kB139 k42 hk42 qv kev bov wrv opv cs y7 y8 y9 y10 y11 z0 h _ _ hP hD hS ls (lv_sub hl [1, 2, 3, 4, 5, 6, 7, 8, 9, 10, 11, 12, 0] rfl)
  have kB88 : ∀ (k42 : (Nat → Int32) → (Nat → Int32) → (Nat → Int32) → (Nat → Int32) → (Nat → Int64) → CS → Int32 → Option (Int32)) (hk42 : ∀ (qv : Nat → Int32) (kev : Nat → Int32) (bov : Nat → Int32) (wrv : Nat → Int32) (opv : Nat → Int64) (cs : CS) (y7 : Int32), k42 qv kev bov wrv opv cs y7 = some 1 → ∀ (H : Heap) (locs : List Loc), va_P (dC, dI) vwCl (((arrW cyI aq 4 qv) ++ (arrW cyI ak 24 kev) ++ (arrW cyI ab 12 bov) ++ (arrW cyI aw 64 wrv) ++ (larrW cyL ao 2 opv)) ++ mainC cyI cyO cyL ad had cs) H → va_D A (((arrW cyI aq 4 qv) ++ (arrW cyI ak 24 kev) ++ (arrW cyI ab 12 bov) ++ (arrW cyI aw 64 wrv) ++ (larrW cyL ao 2 opv)) ++ mainC cyI cyO cyL ad had cs) → va_S A s.heap H locs → ∀ ls : Array Slot, lv_has ls 21 [(0, .ref b), (1, .ref (ad 0)), (2, .ref aq), (3, .ref ak), (4, .ref ab), (5, .ref aw), (6, .ref ao), (7, .int y7)] → W p l e room_1 s m (#[Value.ref b]) below meth c H locs 185 5982 (lw_Z below #[Value.ref b] s) (F0 m 42 ls [])) (qv : Nat → Int32) (kev : Nat → Int32) (bov : Nat → Int32) (wrv : Nat → Int32) (opv : Nat → Int64) (cs : CS) (y7 : Int32) (y8 : Int32) (y9 : Int32) (y10 : Int32), fL_law_b88 L xs k42 qv kev bov wrv opv cs y7 y8 y9 y10 = some 1 → ∀ (H : Heap) (locs : List Loc), va_P (dC, dI) vwCl (((arrW cyI aq 4 qv) ++ (arrW cyI ak 24 kev) ++ (arrW cyI ab 12 bov) ++ (arrW cyI aw 64 wrv) ++ (larrW cyL ao 2 opv)) ++ mainC cyI cyO cyL ad had cs) H → va_D A (((arrW cyI aq 4 qv) ++ (arrW cyI ak 24 kev) ++ (arrW cyI ab 12 bov) ++ (arrW cyI aw 64 wrv) ++ (larrW cyL ao 2 opv)) ++ mainC cyI cyO cyL ad had cs) → va_S A s.heap H locs → ∀ ls : Array Slot, lv_has ls 21 [(0, .ref b), (1, .ref (ad 0)), (2, .ref aq), (3, .ref ak), (4, .ref ab), (5, .ref aw), (6, .ref ao), (7, .int y7), (8, .int y8), (9, .int y9), (10, .int y10)] → W p l e room_1 s m (#[Value.ref b]) below meth c H locs 185 5982 (lw_Z below #[Value.ref b] s) (F0 m 88 ls []) := by
    intro k42 hk42 qv kev bov wrv opv cs y7 y8 y9 y10 h H locs hP hD hS ls hl
    unfold fL_law_b88 at h
    refine lv_aload_n hx hb dL_law_88 rfl (lv_at hl 2 rfl) ?_
    refine lv_iconst (v := 1) hx hb dL_law_89 (by decide) ?_
    obtain ⟨ni192, h⟩ := ifn h
    refine va_iald hx hb hK.1 hP 0 0 rfl rfl ni192 dL_law_90 ?_
    refine lv_if_le (tgt := 110) hx hb dL_law_91 (by decide) (fun c193 => ?_) (fun c193 => ?_)
    · have h := (if_pos c193).symm.trans h
      refine lv_iconst (v := 0) hx hb dL_law_110 (by decide) ?_
      refine lv_istore (lv' := [(11, .int 0), (0, .ref b), (1, .ref (ad 0)), (2, .ref aq), (3, .ref ak), (4, .ref ab), (5, .ref aw), (6, .ref ao), (7, .int y7), (8, .int y8), (9, .int y9), (10, .int y10)]) hx hb dL_law_111 hl (by decide) rfl (fun ls hl => ?_)
      refine lv_iload hx hb dL_law_113 (lv_at hl 0 rfl) ?_
      refine lv_if_eq (tgt := 136) hx hb dL_law_115 (by decide) (fun c194 => ?_) (fun c194 => ?_)
      · refine lv_iconst (v := 0) hx hb dL_law_136 (by decide) ?_
        exact kB137 k42 hk42 qv kev bov wrv opv cs y7 y8 y9 y10 0 0 h _ _ hP hD hS ls (lv_sub hl [1, 2, 3, 4, 5, 6, 7, 8, 9, 10, 11, 0] rfl)
      · exact absurd c194 (by decide)
    · have h := (if_neg c193).symm.trans h
      refine lv_aload_n hx hb dL_law_94 rfl (lv_at hl 3 rfl) ?_
      refine lv_iconst (v := 4) hx hb dL_law_95 (by decide) ?_
      refine lv_iload hx hb dL_law_96 (lv_at hl 10 rfl) ?_
      refine lv_imul hx hb dL_law_98 ?_
      refine lv_iconst (v := 1) hx hb dL_law_99 (by decide) ?_
      refine lv_iadd hx hb dL_law_100 ?_
      obtain ⟨ni195, h⟩ := ifn h
      refine va_iald hx hb hK.1 hP 1 0 rfl rfl ni195 dL_law_101 ?_
      refine lv_iconst (v := 1) hx hb dL_law_102 (by decide) ?_
      refine lv_icmp_ne (tgt := 110) hx hb dL_law_103 (by decide) (fun c196 => ?_) (fun c196 => ?_)
      · have h := (if_neg c196).symm.trans h
        refine lv_iconst (v := 0) hx hb dL_law_110 (by decide) ?_
        refine lv_istore (lv' := [(11, .int 0), (0, .ref b), (1, .ref (ad 0)), (2, .ref aq), (3, .ref ak), (4, .ref ab), (5, .ref aw), (6, .ref ao), (7, .int y7), (8, .int y8), (9, .int y9), (10, .int y10)]) hx hb dL_law_111 hl (by decide) rfl (fun ls hl => ?_)
        refine lv_iload hx hb dL_law_113 (lv_at hl 0 rfl) ?_
        refine lv_if_eq (tgt := 136) hx hb dL_law_115 (by decide) (fun c197 => ?_) (fun c197 => ?_)
        · refine lv_iconst (v := 0) hx hb dL_law_136 (by decide) ?_
          exact kB137 k42 hk42 qv kev bov wrv opv cs y7 y8 y9 y10 0 0 h _ _ hP hD hS ls (lv_sub hl [1, 2, 3, 4, 5, 6, 7, 8, 9, 10, 11, 0] rfl)
        · exact absurd c197 (by decide)
      · have h := (if_pos c196).symm.trans h
        refine lv_iconst (v := 1) hx hb dL_law_106 (by decide) ?_
        refine lv_goto (tgt := 111) hx hb dL_law_107 (by decide) ?_
        refine lv_istore (lv' := [(11, .int 1), (0, .ref b), (1, .ref (ad 0)), (2, .ref aq), (3, .ref ak), (4, .ref ab), (5, .ref aw), (6, .ref ao), (7, .int y7), (8, .int y8), (9, .int y9), (10, .int y10)]) hx hb dL_law_111 hl (by decide) rfl (fun ls hl => ?_)
        refine lv_iload hx hb dL_law_113 (lv_at hl 0 rfl) ?_
        refine lv_if_eq (tgt := 136) hx hb dL_law_115 (by decide) (fun c198 => ?_) (fun c198 => ?_)
        · exact absurd c198 (by decide)
        · refine lv_aload_n hx hb dL_law_118 rfl (lv_at hl 4 rfl) ?_
          refine lv_iconst (v := 4) hx hb dL_law_119 (by decide) ?_
          refine lv_iload hx hb dL_law_120 (lv_at hl 11 rfl) ?_
          refine lv_imul hx hb dL_law_122 ?_
          refine lv_iconst (v := 3) hx hb dL_law_123 (by decide) ?_
          refine lv_iadd hx hb dL_law_124 ?_
          obtain ⟨ni199, h⟩ := ifn h
          refine va_iald hx hb hK.1 hP 1 0 rfl rfl ni199 dL_law_125 ?_
          refine lv_aload_n hx hb dL_law_126 rfl (lv_at hl 3 rfl) ?_
          refine lv_iconst (v := 0) hx hb dL_law_127 (by decide) ?_
          obtain ⟨ni200, h⟩ := ifn h
          refine va_iald hx hb hK.1 hP 0 0 rfl rfl ni200 dL_law_128 ?_
          refine lv_icmp_ge (tgt := 136) hx hb dL_law_129 (by decide) (fun c201 => ?_) (fun c201 => ?_)
          · have h := (if_pos c201).symm.trans h
            refine lv_iconst (v := 0) hx hb dL_law_136 (by decide) ?_
            exact kB137 k42 hk42 qv kev bov wrv opv cs y7 y8 y9 y10 1 0 h _ _ hP hD hS ls (lv_sub hl [1, 2, 3, 4, 5, 6, 7, 8, 9, 10, 11, 0] rfl)
          · have h := (if_neg c201).symm.trans h
            refine lv_iconst (v := 1) hx hb dL_law_132 (by decide) ?_
            refine lv_goto (tgt := 137) hx hb dL_law_133 (by decide) ?_
            exact kB137 k42 hk42 qv kev bov wrv opv cs y7 y8 y9 y10 1 1 h _ _ hP hD hS ls (lv_sub hl [1, 2, 3, 4, 5, 6, 7, 8, 9, 10, 11, 0] rfl)
  have kB86 : ∀ (k42 : (Nat → Int32) → (Nat → Int32) → (Nat → Int32) → (Nat → Int32) → (Nat → Int64) → CS → Int32 → Option (Int32)) (hk42 : ∀ (qv : Nat → Int32) (kev : Nat → Int32) (bov : Nat → Int32) (wrv : Nat → Int32) (opv : Nat → Int64) (cs : CS) (y7 : Int32), k42 qv kev bov wrv opv cs y7 = some 1 → ∀ (H : Heap) (locs : List Loc), va_P (dC, dI) vwCl (((arrW cyI aq 4 qv) ++ (arrW cyI ak 24 kev) ++ (arrW cyI ab 12 bov) ++ (arrW cyI aw 64 wrv) ++ (larrW cyL ao 2 opv)) ++ mainC cyI cyO cyL ad had cs) H → va_D A (((arrW cyI aq 4 qv) ++ (arrW cyI ak 24 kev) ++ (arrW cyI ab 12 bov) ++ (arrW cyI aw 64 wrv) ++ (larrW cyL ao 2 opv)) ++ mainC cyI cyO cyL ad had cs) → va_S A s.heap H locs → ∀ ls : Array Slot, lv_has ls 21 [(0, .ref b), (1, .ref (ad 0)), (2, .ref aq), (3, .ref ak), (4, .ref ab), (5, .ref aw), (6, .ref ao), (7, .int y7)] → W p l e room_1 s m (#[Value.ref b]) below meth c H locs 185 5982 (lw_Z below #[Value.ref b] s) (F0 m 42 ls [])) (qv : Nat → Int32) (kev : Nat → Int32) (bov : Nat → Int32) (wrv : Nat → Int32) (opv : Nat → Int64) (cs : CS) (y7 : Int32) (y8 : Int32) (y9 : Int32) (z0 : Int32), fL_law_b86 L xs k42 qv kev bov wrv opv cs y7 y8 y9 z0 = some 1 → ∀ (H : Heap) (locs : List Loc), va_P (dC, dI) vwCl (((arrW cyI aq 4 qv) ++ (arrW cyI ak 24 kev) ++ (arrW cyI ab 12 bov) ++ (arrW cyI aw 64 wrv) ++ (larrW cyL ao 2 opv)) ++ mainC cyI cyO cyL ad had cs) H → va_D A (((arrW cyI aq 4 qv) ++ (arrW cyI ak 24 kev) ++ (arrW cyI ab 12 bov) ++ (arrW cyI aw 64 wrv) ++ (larrW cyL ao 2 opv)) ++ mainC cyI cyO cyL ad had cs) → va_S A s.heap H locs → ∀ ls : Array Slot, lv_has ls 21 [(0, .ref b), (1, .ref (ad 0)), (2, .ref aq), (3, .ref ak), (4, .ref ab), (5, .ref aw), (6, .ref ao), (7, .int y7), (8, .int y8), (9, .int y9)] → W p l e room_1 s m (#[Value.ref b]) below meth c H locs 185 5982 (lw_Z below #[Value.ref b] s) (F0 m 86 ls [.int z0]) := by
    intro k42 hk42 qv kev bov wrv opv cs y7 y8 y9 z0 h H locs hP hD hS ls hl
    unfold fL_law_b86 at h
    refine lv_istore (lv' := [(10, .int z0), (0, .ref b), (1, .ref (ad 0)), (2, .ref aq), (3, .ref ak), (4, .ref ab), (5, .ref aw), (6, .ref ao), (7, .int y7), (8, .int y8), (9, .int y9)]) hx hb dL_law_86 hl (by decide) rfl (fun ls hl => ?_)
    exact kB88 k42 hk42 qv kev bov wrv opv cs y7 y8 y9 z0 h _ _ hP hD hS ls (lv_sub hl [1, 2, 3, 4, 5, 6, 7, 8, 9, 10, 0] rfl)
  have kB42 : ∀ (fuel : Nat) (qv : Nat → Int32) (kev : Nat → Int32) (bov : Nat → Int32) (wrv : Nat → Int32) (opv : Nat → Int64) (cs : CS) (y7 : Int32), fL_law_b42 L xs fuel qv kev bov wrv opv cs y7 = some 1 → ∀ (H : Heap) (locs : List Loc), va_P (dC, dI) vwCl (((arrW cyI aq 4 qv) ++ (arrW cyI ak 24 kev) ++ (arrW cyI ab 12 bov) ++ (arrW cyI aw 64 wrv) ++ (larrW cyL ao 2 opv)) ++ mainC cyI cyO cyL ad had cs) H → va_D A (((arrW cyI aq 4 qv) ++ (arrW cyI ak 24 kev) ++ (arrW cyI ab 12 bov) ++ (arrW cyI aw 64 wrv) ++ (larrW cyL ao 2 opv)) ++ mainC cyI cyO cyL ad had cs) → va_S A s.heap H locs → ∀ ls : Array Slot, lv_has ls 21 [(0, .ref b), (1, .ref (ad 0)), (2, .ref aq), (3, .ref ak), (4, .ref ab), (5, .ref aw), (6, .ref ao), (7, .int y7)] → W p l e room_1 s m (#[Value.ref b]) below meth c H locs 185 5982 (lw_Z below #[Value.ref b] s) (F0 m 42 ls []) := by
    intro fuel
    induction fuel with
    | zero => intro qv kev bov wrv opv cs y7 h; rw [fL_law_b42] at h; cases h
    | succ fuel ih =>
      intro qv kev bov wrv opv cs y7 h H locs hP hD hS ls hl
      rw [fL_law_b42] at h
      refine lv_iload hx hb dL_law_42 (lv_at hl 7 rfl) ?_
      refine lv_bipush (v := 18) hx hb dL_law_44 (by decide) ?_
      refine lv_icmp_ge (tgt := 1235) hx hb dL_law_46 (by decide) (fun c202 => ?_) (fun c202 => ?_)
      · have h := (if_pos c202).symm.trans h
        refine lv_iconst (v := 1) hx hb dL_law_1235 (by decide) ?_
        refine va_forget (fun q hq => hAd _ (hS.2.2 q hq)) ?_
        refine W.widen (k := 600000) (n := 7302249) (Nat.le_of_ble_eq_true rfl) (Nat.le_of_ble_eq_true rfl) ?_
        exact lw_ret hx hb hr hlocks dL_law_1236
      · have h := (if_neg c202).symm.trans h
        refine lv_aload_n hx hb dL_law_49 rfl (lv_at hl 0 rfl) ?_
        refine lv_iload hx hb dL_law_50 (lv_at hl 7 rfl) ?_
        obtain ⟨q203, e204, h⟩ := ob h
        refine fr_cell hP hD hS hA (va_runS (As := [.ref b, .int y7]) (rest := []) ⟨hx, hb, hml, hown, hts⟩ (mL_cell l b L xs y7 q203 e204 _) (va_cwS 2 hts (gSL ml_L_90 st_L_cell in_L co_L_cell) rfl rfl rfl (by decide +kernel) ⟨Nat.le_of_ble_eq_true rfl, Nat.le_of_ble_eq_true rfl⟩) (cell_pre hX hbl hbA hS) rfl rfl hl.1 rfl (lv_room (Nat.le_of_ble_eq_true rfl)) dL_law_52 ⟨Nat.le_of_ble_eq_true rfl, Nat.le_of_ble_eq_true rfl⟩) (fun H locs hP hD hS => ?_)
        refine lv_istore (lv' := [(8, .int q203), (0, .ref b), (1, .ref (ad 0)), (2, .ref aq), (3, .ref ak), (4, .ref ab), (5, .ref aw), (6, .ref ao), (7, .int y7)]) hx hb dL_law_55 hl (by decide) rfl (fun ls hl => ?_)
        refine lv_iload hx hb dL_law_57 (lv_at hl 0 rfl) ?_
        refine lv_bipush (v := 10) hx hb dL_law_59 (by decide) ?_
        obtain ⟨q205, e206, h⟩ := ob h
        refine fr_ir (M := ([] : va_W)) (va_runS (As := [.int q203, .int 10]) (rest := []) ⟨hx, hb, hml, hown, hts⟩ (mL_low l dC dI cyI cyO cyL q203 10 _ q205 e206) (va_cwS 2 hts (gSL ml_L_60 st_L_low in_L co_L_low) rfl rfl rfl (by decide +kernel) ⟨Nat.le_of_ble_eq_true rfl, Nat.le_of_ble_eq_true rfl⟩) (cP_S hK hP hD [] rfl rfl) rfl rfl hl.1 rfl (lv_room (Nat.le_of_ble_eq_true rfl)) dL_law_61 ⟨Nat.le_of_ble_eq_true rfl, Nat.le_of_ble_eq_true rfl⟩) hP hD hS hA [] rfl (fun H locs hP hS => ?_)
        refine lv_istore (lv' := [(9, .int q205), (8, .int q203), (0, .ref b), (1, .ref (ad 0)), (2, .ref aq), (3, .ref ak), (4, .ref ab), (5, .ref aw), (6, .ref ao), (7, .int y7)]) hx hb dL_law_64 hl (by decide) rfl (fun ls hl => ?_)
        refine lv_aload_n hx hb dL_law_66 rfl (lv_at hl 4 rfl) ?_
        refine lv_iconst (v := 1) hx hb dL_law_67 (by decide) ?_
        obtain ⟨ni207, h⟩ := ifn h
        refine va_iald hx hb hK.1 hP 0 0 rfl rfl ni207 dL_law_68 ?_
        refine lv_if_ne (tgt := 76) hx hb dL_law_69 (by decide) (fun c208 => ?_) (fun c208 => ?_)
        · have h := (if_neg c208).symm.trans h
          refine lv_iload hx hb dL_law_76 (lv_at hl 1 rfl) ?_
          refine lv_iconst (v := 4) hx hb dL_law_78 (by decide) ?_
          refine lv_ishr hx hb dL_law_79 ?_
          refine lv_aload_n hx hb dL_law_80 rfl (lv_at hl 4 rfl) ?_
          refine lv_iconst (v := 1) hx hb dL_law_81 (by decide) ?_
          obtain ⟨ni209, h⟩ := ifn h
          refine va_iald hx hb hK.1 hP 0 0 rfl rfl ni209 dL_law_82 ?_
          obtain ⟨q210, e211, h⟩ := ob h
          refine fr_ir (M := ([] : va_W)) (va_runS (As := [.int (q203 >>> ((4 : Int32) &&& 31)), .int (qv (1 : Int32).toNatClampNeg)]) (rest := []) ⟨hx, hb, hml, hown, hts⟩ (mL_low l dC dI cyI cyO cyL (q203 >>> ((4 : Int32) &&& 31)) (qv (1 : Int32).toNatClampNeg) _ q210 e211) (va_cwS 2 hts (gSL ml_L_60 st_L_low in_L co_L_low) rfl rfl rfl (by decide +kernel) ⟨Nat.le_of_ble_eq_true rfl, Nat.le_of_ble_eq_true rfl⟩) (cP_S hK hP hD [] rfl rfl) rfl rfl hl.1 rfl (lv_room (Nat.le_of_ble_eq_true rfl)) dL_law_83 ⟨Nat.le_of_ble_eq_true rfl, Nat.le_of_ble_eq_true rfl⟩) hP hD hS hA [] rfl (fun H locs hP hS => ?_)
          exact kB86 (fL_law_b42 L xs fuel) ih qv kev bov wrv opv cs y7 q203 q205 q210 h _ _ hP hD hS ls (lv_sub hl [2, 3, 4, 5, 6, 7, 8, 9, 1, 0] rfl)
        · have h := (if_pos c208).symm.trans h
          refine lv_iconst (v := 0) hx hb dL_law_72 (by decide) ?_
          refine lv_goto (tgt := 86) hx hb dL_law_73 (by decide) ?_
          exact kB86 (fL_law_b42 L xs fuel) ih qv kev bov wrv opv cs y7 q203 q205 0 h _ _ hP hD hS ls (lv_sub hl [2, 3, 4, 5, 6, 7, 8, 9, 1, 0] rfl)
  exact kB42
