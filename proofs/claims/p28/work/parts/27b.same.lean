/-! same -/
noncomputable def fL_same_b881 (qv : Nat → Int32) (kev : Nat → Int32) (bov : Nat → Int32) (wrv : Nat → Int32) (opv : Nat → Int64) (cs : CS) (y7 : Int32) (y8 : Int32) (y9 : Int32) (y10 : Int32) (y11 : Int32) : Option (Int32 × (Nat → Int64) × (CS)) :=
  ((sX7_count cs 0).bind fun q1 => (if (1 : Int32) < 0 ∨ 4 ≤ (1 : Int32).toNatClampNeg then none else (if q1.1 = (qv (1 : Int32).toNatClampNeg) then ((sX7_count q1.2 1).bind fun q5 => (if q5.1 = y7 then ((sX7_count q5.2 2).bind fun q8 => (if (2 : Int32) < 0 ∨ 4 ≤ (2 : Int32).toNatClampNeg then none else (if q8.1 = (qv (2 : Int32).toNatClampNeg) then ((sX7_count q8.2 3).bind fun q12 => (if q12.1 = y11 then ((sX7_count q12.2 4).bind fun q15 => (if (3 : Int32) < 0 ∨ 4 ≤ (3 : Int32).toNatClampNeg then none else (if q15.1 = (qv (3 : Int32).toNatClampNeg) then ((sX7_count q15.2 5).bind fun q19 => (if q19.1 = y9 then ((sX7_count q19.2 6).bind fun q22 => (if q22.1 = y10 then ((sX7_count q22.2 7).bind fun q25 => (if (0 : Int32) < 0 ∨ 4 ≤ (0 : Int32).toNatClampNeg then none else (if q25.1 = (qv (0 : Int32).toNatClampNeg) then ((sX7_count q25.2 8).bind fun q29 => (if q29.1 = y8 then (some (1, opv, q29.2)) else (some (0, opv, q29.2)))) else (some (0, opv, q25.2))))) else (some (0, opv, q22.2)))) else (some (0, opv, q19.2)))) else (some (0, opv, q15.2))))) else (some (0, opv, q12.2)))) else (some (0, opv, q8.2))))) else (some (0, opv, q5.2)))) else (some (0, opv, q1.2)))))

noncomputable def fL_same_b790 (k708 : (Nat → Int32) → (Nat → Int32) → (Nat → Int32) → (Nat → Int32) → (Nat → Int64) → CS → Int32 → Int32 → Int32 → Int32 → Int32 → Int32 → Option (Int32 × (Nat → Int64) × (CS))) (qv : Nat → Int32) (kev : Nat → Int32) (bov : Nat → Int32) (wrv : Nat → Int32) (opv : Nat → Int64) (cs : CS) (y7 : Int32) (y8 : Int32) (y9 : Int32) (y10 : Int32) (y11 : Int32) (y12 : Int32) (y13 : Int32) (z0 : Int32) (z1 : Int32) : Option (Int32 × (Nat → Int64) × (CS)) :=
  (if z0 = z1 then ((sX7_wrap cs y12 1).bind fun q33 => (if q33.1 = (fL_which y13) then ((sX7_wrap q33.2 y12 2).bind fun q36 => (if q36.1 = (fL_closer y13) then ((sX7_wrap q36.2 y12 3).bind fun q39 => (if q39.1 = (fL_closed y13) then ((sX7_wrap q39.2 y12 4).bind fun q42 => (if q42.1 = ((y13 >>> ((18 : Int32) &&& 31)) &&& 1) then ((sX7_wrap q42.2 y12 5).bind fun q45 => (if q45.1 = ((y13 >>> ((19 : Int32) &&& 31)) &&& 7) then k708 qv kev bov wrv opv q45.2 y7 y8 y9 y10 y11 (y12 + 1) else (some (0, opv, q45.2)))) else (some (0, opv, q42.2)))) else (some (0, opv, q39.2)))) else (some (0, opv, q36.2)))) else (some (0, opv, q33.2)))) else (some (0, opv, cs)))

noncomputable def fL_same_b716 (k708 : (Nat → Int32) → (Nat → Int32) → (Nat → Int32) → (Nat → Int32) → (Nat → Int64) → CS → Int32 → Int32 → Int32 → Int32 → Int32 → Int32 → Option (Int32 × (Nat → Int64) × (CS))) (qv : Nat → Int32) (kev : Nat → Int32) (bov : Nat → Int32) (wrv : Nat → Int32) (opv : Nat → Int64) (cs : CS) (y7 : Int32) (y8 : Int32) (y9 : Int32) (y10 : Int32) (y11 : Int32) (y12 : Int32) : Option (Int32 × (Nat → Int64) × (CS)) :=
  (if y12 < 0 ∨ 64 ≤ y12.toNatClampNeg then none else ((sX7_wrap cs y12 0).bind fun q49 => (if (fL_key (wrv y12.toNatClampNeg)) = 7 then fL_same_b790 k708 qv kev bov wrv opv q49.2 y7 y8 (y9 + (((wrv y12.toNatClampNeg) >>> ((18 : Int32) &&& 31)) &&& 1)) (y10 + (((((wrv y12.toNatClampNeg) >>> ((19 : Int32) &&& 31)) &&& 1) + (((wrv y12.toNatClampNeg) >>> ((20 : Int32) &&& 31)) &&& 1)) + (((wrv y12.toNatClampNeg) >>> ((21 : Int32) &&& 31)) &&& 1))) y11 y12 (wrv y12.toNatClampNeg) q49.1 (-6) else fL_same_b790 k708 qv kev bov wrv opv q49.2 y7 y8 (y9 + (((wrv y12.toNatClampNeg) >>> ((18 : Int32) &&& 31)) &&& 1)) (y10 + (((((wrv y12.toNatClampNeg) >>> ((19 : Int32) &&& 31)) &&& 1) + (((wrv y12.toNatClampNeg) >>> ((20 : Int32) &&& 31)) &&& 1)) + (((wrv y12.toNatClampNeg) >>> ((21 : Int32) &&& 31)) &&& 1))) y11 y12 (wrv y12.toNatClampNeg) q49.1 (fL_key (wrv y12.toNatClampNeg)))))

noncomputable def fL_same_b708 : Nat → (Nat → Int32) → (Nat → Int32) → (Nat → Int32) → (Nat → Int32) → (Nat → Int64) → CS → Int32 → Int32 → Int32 → Int32 → Int32 → Int32 → Option (Int32 × (Nat → Int64) × (CS))
  | 0, _, _, _, _, _, _, _, _, _, _, _, _ => none
  | fuel + 1, qv, kev, bov, wrv, opv, cs, y7, y8, y9, y10, y11, y12 =>
  (if (3 : Int32) < 0 ∨ 4 ≤ (3 : Int32).toNatClampNeg then none else (if (qv (3 : Int32).toNatClampNeg) ≤ y12 then fL_same_b881 qv kev bov wrv opv cs y7 y8 y9 y10 y11 else fL_same_b716 (fL_same_b708 fuel) qv kev bov wrv opv cs y7 y8 y9 y10 y11 y12))

noncomputable def fL_same_b705 (qv : Nat → Int32) (kev : Nat → Int32) (bov : Nat → Int32) (wrv : Nat → Int32) (opv : Nat → Int64) (cs : CS) (y7 : Int32) (y8 : Int32) (y9 : Int32) (y10 : Int32) (y11 : Int32) : Option (Int32 × (Nat → Int64) × (CS)) :=
  fL_same_b708 6000 qv kev bov wrv opv cs y7 y8 y9 y10 y11 0

noncomputable def fL_same_b639 : Nat → (Nat → Int32) → (Nat → Int32) → (Nat → Int32) → (Nat → Int32) → (Nat → Int64) → CS → Int32 → Int32 → Int32 → Int32 → Int32 → Int32 → Option (Int32 × (Nat → Int64) × (CS))
  | 0, _, _, _, _, _, _, _, _, _, _, _, _ => none
  | fuel + 1, qv, kev, bov, wrv, opv, cs, y7, y8, y9, y10, y11, y12 =>
  (if (2 : Int32) < 0 ∨ 4 ≤ (2 : Int32).toNatClampNeg then none else (if (qv (2 : Int32).toNatClampNeg) ≤ y12 then fL_same_b705 qv kev bov wrv opv cs y7 y8 y9 y10 y11 else ((sX7_ofBox cs y12 0).bind fun q56 => (if (2 * y12) < 0 ∨ 12 ≤ (2 * y12).toNatClampNeg then none else (if q56.1 = (bov (2 * y12).toNatClampNeg) then ((sX7_ofBox q56.2 y12 1).bind fun q60 => (if ((2 * y12) + 1) < 0 ∨ 12 ≤ ((2 * y12) + 1).toNatClampNeg then none else (if q60.1 = (bov ((2 * y12) + 1).toNatClampNeg) then (if ((2 * y12) + 1) < 0 ∨ 12 ≤ ((2 * y12) + 1).toNatClampNeg then none else fL_same_b639 fuel qv kev bov wrv opv q60.2 y7 y8 y9 y10 (y11 + (bov ((2 * y12) + 1).toNatClampNeg)) (y12 + 1)) else (some (0, opv, q60.2))))) else (some (0, opv, q56.2)))))))

noncomputable def fL_same_b633 (qv : Nat → Int32) (kev : Nat → Int32) (bov : Nat → Int32) (wrv : Nat → Int32) (opv : Nat → Int64) (cs : CS) (y7 : Int32) (y8 : Int32) (y9 : Int32) (y10 : Int32) : Option (Int32 × (Nat → Int64) × (CS)) :=
  fL_same_b639 6000 qv kev bov wrv opv cs y7 y8 y9 y10 0 0

noncomputable def fL_same_b600 (k533 : (Nat → Int32) → (Nat → Int32) → (Nat → Int32) → (Nat → Int32) → (Nat → Int64) → CS → Int32 → Int32 → Int32 → Int32 → Int32 → Int32 → Option (Int32 × (Nat → Int64) × (CS))) (qv : Nat → Int32) (kev : Nat → Int32) (bov : Nat → Int32) (wrv : Nat → Int32) (opv : Nat → Int64) (cs : CS) (y1 : Int32) (y7 : Int32) (y8 : Int32) (y9 : Int32) (y10 : Int32) (y11 : Int32) (y12 : Int32) : Option (Int32 × (Nat → Int64) × (CS)) :=
  (if y11 = 0 then ((sX7_count cs 9).bind fun q68 => (if q68.1 = y12 then ((fL_low y1 3).bind fun q71 => k533 qv kev bov wrv opv q68.2 y1 y7 y8 y9 y10 (y11 + (1 + q71))) else (some (0, opv, q68.2)))) else ((fL_low y1 3).bind fun q66 => k533 qv kev bov wrv opv cs y1 y7 y8 y9 y10 (y11 + (1 + q66))))

noncomputable def fL_same_b566 (k533 : (Nat → Int32) → (Nat → Int32) → (Nat → Int32) → (Nat → Int32) → (Nat → Int64) → CS → Int32 → Int32 → Int32 → Int32 → Int32 → Int32 → Option (Int32 × (Nat → Int64) × (CS))) : Nat → (Nat → Int32) → (Nat → Int32) → (Nat → Int32) → (Nat → Int32) → (Nat → Int64) → CS → Int32 → Int32 → Int32 → Int32 → Int32 → Int32 → Int32 → Int32 → Option (Int32 × (Nat → Int64) × (CS))
  | 0, _, _, _, _, _, _, _, _, _, _, _, _, _, _ => none
  | fuel + 1, qv, kev, bov, wrv, opv, cs, y1, y7, y8, y9, y10, y11, y12, y13 =>
  (if (2 : Int32) < 0 ∨ 4 ≤ (2 : Int32).toNatClampNeg then none else (if (qv (2 : Int32).toNatClampNeg) ≤ y13 then fL_same_b600 k533 qv kev bov wrv opv cs y1 y7 y8 y9 y10 y11 y12 else ((sX7_canOpen cs y13 y11).bind fun q75 => (if q75.1 = ((y12 >>> (y13 &&& 31)) &&& 1) then fL_same_b566 k533 fuel qv kev bov wrv opv q75.2 y1 y7 y8 y9 y10 y11 y12 (y13 + 1) else (some (0, opv, q75.2))))))

noncomputable def fL_same_b533 : Nat → (Nat → Int32) → (Nat → Int32) → (Nat → Int32) → (Nat → Int32) → (Nat → Int64) → CS → Int32 → Int32 → Int32 → Int32 → Int32 → Int32 → Option (Int32 × (Nat → Int64) × (CS))
  | 0, _, _, _, _, _, _, _, _, _, _, _, _ => none
  | fuel + 1, qv, kev, bov, wrv, opv, cs, y1, y7, y8, y9, y10, y11 =>
  (if 8 ≤ y11 then fL_same_b633 qv kev bov wrv opv cs y7 y8 y9 y10 else ((fL_open qv kev wrv opv y11 (-1) 0).bind fun q79 => ((fL_boxes qv wrv q79).bind fun q81 => fL_same_b566 (fL_same_b533 fuel) 6000 qv kev bov wrv q79 cs y1 y7 y8 y9 y10 y11 q81 0)))

noncomputable def fL_same_b530 (qv : Nat → Int32) (kev : Nat → Int32) (bov : Nat → Int32) (wrv : Nat → Int32) (opv : Nat → Int64) (cs : CS) (y1 : Int32) (y7 : Int32) (y8 : Int32) (y9 : Int32) (y10 : Int32) : Option (Int32 × (Nat → Int64) × (CS)) :=
  fL_same_b533 6000 qv kev bov wrv opv cs y1 y7 y8 y9 y10 0

noncomputable def fL_same_b468 (k15 : (Nat → Int32) → (Nat → Int32) → (Nat → Int32) → (Nat → Int32) → (Nat → Int64) → CS → Int32 → Int32 → Int32 → Int32 → Int32 → Int32 → Option (Int32 × (Nat → Int64) × (CS))) (qv : Nat → Int32) (kev : Nat → Int32) (bov : Nat → Int32) (wrv : Nat → Int32) (opv : Nat → Int64) (cs : CS) (y1 : Int32) (y7 : Int32) (y8 : Int32) (y9 : Int32) (y10 : Int32) (y11 : Int32) (y15 : Int32) (y16 : Int32) (z0 : Int32) (z1 : Int32) : Option (Int32 × (Nat → Int64) × (CS)) :=
  (if z0 = z1 then ((fL_open qv kev wrv opv y16 y11 y15).bind fun q84 => ((sX7_leaks cs y11 y15 y16).bind fun q86 => (if (4 * y11) < 0 ∨ 24 ≤ (4 * y11).toNatClampNeg then none else (if 0 ≤ (kev (4 * y11).toNatClampNeg) then (if q86.1 = (-1) then k15 qv kev bov wrv q84 q86.2 y1 y7 y8 y9 y10 (y11 + 1) else (some (0, q84, q86.2))) else ((fL_boxes qv wrv q84).bind fun q91 => (if q86.1 = q91 then k15 qv kev bov wrv q84 q86.2 y1 y7 y8 y9 y10 (y11 + 1) else (some (0, q84, q86.2)))))))) else (some (0, opv, cs)))

noncomputable def fL_same_b390 (k15 : (Nat → Int32) → (Nat → Int32) → (Nat → Int32) → (Nat → Int32) → (Nat → Int64) → CS → Int32 → Int32 → Int32 → Int32 → Int32 → Int32 → Option (Int32 × (Nat → Int64) × (CS))) (qv : Nat → Int32) (kev : Nat → Int32) (bov : Nat → Int32) (wrv : Nat → Int32) (opv : Nat → Int64) (cs : CS) (y1 : Int32) (y7 : Int32) (y8 : Int32) (y9 : Int32) (y10 : Int32) (y11 : Int32) : Option (Int32 × (Nat → Int64) × (CS)) :=
  (if ((4 * y11) + 2) < 0 ∨ 24 ≤ ((4 * y11) + 2).toNatClampNeg then none else ((fL_low (y1 >>> (y11 &&& 31)) ((kev ((4 * y11) + 2).toNatClampNeg) + 2)).bind fun q95 => ((fL_low (y1 >>> ((3 + y11) &&& 31)) 8).bind fun q97 => ((fL_open qv kev wrv opv q97 (-1) 0).bind fun q99 => ((sX7_canHave cs y11 q95 q97).bind fun q101 => ((fL_had qv kev wrv q99 y11 q95 (-1) 0).bind fun q103 => (if q103 = 0 then fL_same_b468 k15 qv kev bov wrv q99 q101.2 y1 y7 y8 y9 y10 y11 q95 q97 q101.1 0 else fL_same_b468 k15 qv kev bov wrv q99 q101.2 y1 y7 y8 y9 y10 y11 q95 q97 q101.1 1)))))))

noncomputable def fL_same_b385 (k15 : (Nat → Int32) → (Nat → Int32) → (Nat → Int32) → (Nat → Int32) → (Nat → Int64) → CS → Int32 → Int32 → Int32 → Int32 → Int32 → Int32 → Option (Int32 × (Nat → Int64) × (CS))) (qv : Nat → Int32) (kev : Nat → Int32) (bov : Nat → Int32) (wrv : Nat → Int32) (opv : Nat → Int64) (cs : CS) (y1 : Int32) (y7 : Int32) (y8 : Int32) (y9 : Int32) (y10 : Int32) (y11 : Int32) (z0 : Int32) (z1 : Int32) : Option (Int32 × (Nat → Int64) × (CS)) :=
  (if z0 = z1 then fL_same_b390 k15 qv kev bov wrv opv cs y1 y7 y8 y9 y10 y11 else (some (0, opv, cs)))

noncomputable def fL_same_b361 (k15 : (Nat → Int32) → (Nat → Int32) → (Nat → Int32) → (Nat → Int32) → (Nat → Int64) → CS → Int32 → Int32 → Int32 → Int32 → Int32 → Int32 → Option (Int32 × (Nat → Int64) × (CS))) (qv : Nat → Int32) (kev : Nat → Int32) (bov : Nat → Int32) (wrv : Nat → Int32) (opv : Nat → Int64) (cs : CS) (y1 : Int32) (y7 : Int32) (y8 : Int32) (y9 : Int32) (y10 : Int32) (y11 : Int32) (y14 : Int32) : Option (Int32 × (Nat → Int64) × (CS)) :=
  ((sX7_lostBy cs y11).bind fun q107 => (if ((4 * y11) + 1) < 0 ∨ 24 ≤ ((4 * y11) + 1).toNatClampNeg then none else (if (kev ((4 * y11) + 1).toNatClampNeg) = 1 then fL_same_b385 k15 qv kev bov wrv opv q107.2 y1 y7 y8 y9 y10 y11 q107.1 y14 else fL_same_b385 k15 qv kev bov wrv opv q107.2 y1 y7 y8 y9 y10 y11 q107.1 (-1))))

noncomputable def fL_same_b305 (k15 : (Nat → Int32) → (Nat → Int32) → (Nat → Int32) → (Nat → Int32) → (Nat → Int64) → CS → Int32 → Int32 → Int32 → Int32 → Int32 → Int32 → Option (Int32 × (Nat → Int64) × (CS))) : Nat → (Nat → Int32) → (Nat → Int32) → (Nat → Int32) → (Nat → Int32) → (Nat → Int64) → CS → Int32 → Int32 → Int32 → Int32 → Int32 → Int32 → Int32 → Int32 → Option (Int32 × (Nat → Int64) × (CS))
  | 0, _, _, _, _, _, _, _, _, _, _, _, _, _, _ => none
  | fuel + 1, qv, kev, bov, wrv, opv, cs, y1, y7, y8, y9, y10, y11, y14, y15 =>
  (if (2 : Int32) < 0 ∨ 4 ≤ (2 : Int32).toNatClampNeg then none else (if (qv (2 : Int32).toNatClampNeg) ≤ y15 then fL_same_b361 k15 qv kev bov wrv opv cs y1 y7 y8 y9 y10 y11 y14 else (if ((2 * y15) + 1) < 0 ∨ 12 ≤ ((2 * y15) + 1).toNatClampNeg then none else (if (bov ((2 * y15) + 1).toNatClampNeg) = 1 then (if (2 * y15) < 0 ∨ 12 ≤ (2 * y15).toNatClampNeg then none else ((fL_under kev (bov (2 * y15).toNatClampNeg) y11).bind fun q116 => (if q116 = 0 then fL_same_b305 k15 fuel qv kev bov wrv opv cs y1 y7 y8 y9 y10 y11 (y14 ||| 0) (y15 + 1) else fL_same_b305 k15 fuel qv kev bov wrv opv cs y1 y7 y8 y9 y10 y11 (y14 ||| (1 <<< (y15 &&& 31))) (y15 + 1)))) else fL_same_b305 k15 fuel qv kev bov wrv opv cs y1 y7 y8 y9 y10 y11 (y14 ||| 0) (y15 + 1)))))

noncomputable def fL_same_b247 (k15 : (Nat → Int32) → (Nat → Int32) → (Nat → Int32) → (Nat → Int32) → (Nat → Int64) → CS → Int32 → Int32 → Int32 → Int32 → Int32 → Int32 → Option (Int32 × (Nat → Int64) × (CS))) (qv : Nat → Int32) (kev : Nat → Int32) (bov : Nat → Int32) (wrv : Nat → Int32) (opv : Nat → Int64) (cs : CS) (y1 : Int32) (y7 : Int32) (y8 : Int32) (y9 : Int32) (y10 : Int32) (y11 : Int32) : Option (Int32 × (Nat → Int64) × (CS)) :=
  (if ((4 * y11) + 1) < 0 ∨ 24 ≤ ((4 * y11) + 1).toNatClampNeg then none else (if ((4 * y11) + 1) < 0 ∨ 24 ≤ ((4 * y11) + 1).toNatClampNeg then none else (if (kev ((4 * y11) + 1).toNatClampNeg) = 1 then (if ((4 * y11) + 3) < 0 ∨ 24 ≤ ((4 * y11) + 3).toNatClampNeg then none else (if (0 : Int32) < 0 ∨ 4 ≤ (0 : Int32).toNatClampNeg then none else (if (kev ((4 * y11) + 3).toNatClampNeg) < (qv (0 : Int32).toNatClampNeg) then fL_same_b305 k15 6000 qv kev bov wrv opv cs y1 (y7 + (kev ((4 * y11) + 1).toNatClampNeg)) (y8 ||| 0) y9 y10 y11 0 0 else fL_same_b305 k15 6000 qv kev bov wrv opv cs y1 (y7 + (kev ((4 * y11) + 1).toNatClampNeg)) (y8 ||| (1 <<< (y11 &&& 31))) y9 y10 y11 0 0))) else fL_same_b305 k15 6000 qv kev bov wrv opv cs y1 (y7 + (kev ((4 * y11) + 1).toNatClampNeg)) (y8 ||| 0) y9 y10 y11 0 0)))

noncomputable def fL_same_b164 (k15 : (Nat → Int32) → (Nat → Int32) → (Nat → Int32) → (Nat → Int32) → (Nat → Int64) → CS → Int32 → Int32 → Int32 → Int32 → Int32 → Int32 → Option (Int32 × (Nat → Int64) × (CS))) (qv : Nat → Int32) (kev : Nat → Int32) (bov : Nat → Int32) (wrv : Nat → Int32) (opv : Nat → Int64) (cs : CS) (y1 : Int32) (y7 : Int32) (y8 : Int32) (y9 : Int32) (y10 : Int32) (y11 : Int32) (y12 : Int32) (y13 : Int32) (z0 : Int32) (z1 : Int32) : Option (Int32 × (Nat → Int64) × (CS)) :=
  (if z0 = z1 then ((sX7_ofKey cs y11 1).bind fun q126 => (if ((4 * y11) + 1) < 0 ∨ 24 ≤ ((4 * y11) + 1).toNatClampNeg then none else (if q126.1 = (kev ((4 * y11) + 1).toNatClampNeg) then ((sX7_ofKey q126.2 y11 2).bind fun q130 => (if ((4 * y11) + 2) < 0 ∨ 24 ≤ ((4 * y11) + 2).toNatClampNeg then none else (if q130.1 = (kev ((4 * y11) + 2).toNatClampNeg) then ((sX7_ofKey q130.2 y11 3).bind fun q134 => (if ((4 * y11) + 3) < 0 ∨ 24 ≤ ((4 * y11) + 3).toNatClampNeg then none else (if q134.1 = (kev ((4 * y11) + 3).toNatClampNeg) then ((sX7_ofKey q134.2 y11 4).bind fun q138 => (if q138.1 = y12 then ((sX7_ofKey q138.2 y11 5).bind fun q141 => (if q141.1 = y13 then fL_same_b247 k15 qv kev bov wrv opv q141.2 y1 y7 y8 y9 y10 y11 else (some (0, opv, q141.2)))) else (some (0, opv, q138.2)))) else (some (0, opv, q134.2))))) else (some (0, opv, q130.2))))) else (some (0, opv, q126.2))))) else (some (0, opv, cs)))

noncomputable def fL_same_b137 (k15 : (Nat → Int32) → (Nat → Int32) → (Nat → Int32) → (Nat → Int32) → (Nat → Int64) → CS → Int32 → Int32 → Int32 → Int32 → Int32 → Int32 → Option (Int32 × (Nat → Int64) × (CS))) (qv : Nat → Int32) (kev : Nat → Int32) (bov : Nat → Int32) (wrv : Nat → Int32) (opv : Nat → Int64) (cs : CS) (y1 : Int32) (y7 : Int32) (y8 : Int32) (y9 : Int32) (y10 : Int32) (y11 : Int32) (y12 : Int32) (y13 : Int32) : Option (Int32 × (Nat → Int64) × (CS)) :=
  ((sX7_ofKey cs y11 0).bind fun q144 => (if (4 * y11) < 0 ∨ 24 ≤ (4 * y11).toNatClampNeg then none else (if 0 ≤ (kev (4 * y11).toNatClampNeg) then (if (4 * y11) < 0 ∨ 24 ≤ (4 * y11).toNatClampNeg then none else fL_same_b164 k15 qv kev bov wrv opv q144.2 y1 y7 y8 y9 y10 y11 y12 y13 q144.1 (kev (4 * y11).toNatClampNeg)) else fL_same_b164 k15 qv kev bov wrv opv q144.2 y1 y7 y8 y9 y10 y11 y12 y13 q144.1 (-6))))

noncomputable def fL_same_b85 (k15 : (Nat → Int32) → (Nat → Int32) → (Nat → Int32) → (Nat → Int32) → (Nat → Int64) → CS → Int32 → Int32 → Int32 → Int32 → Int32 → Int32 → Option (Int32 × (Nat → Int64) × (CS))) : Nat → (Nat → Int32) → (Nat → Int32) → (Nat → Int32) → (Nat → Int32) → (Nat → Int64) → CS → Int32 → Int32 → Int32 → Int32 → Int32 → Int32 → Int32 → Int32 → Int32 → Option (Int32 × (Nat → Int64) × (CS))
  | 0, _, _, _, _, _, _, _, _, _, _, _, _, _, _, _ => none
  | fuel + 1, qv, kev, bov, wrv, opv, cs, y1, y7, y8, y9, y10, y11, y12, y13, y14 =>
  (if (2 : Int32) < 0 ∨ 4 ≤ (2 : Int32).toNatClampNeg then none else (if (qv (2 : Int32).toNatClampNeg) ≤ y14 then fL_same_b137 k15 qv kev bov wrv opv cs y1 y7 y8 y9 y10 y11 y12 y13 else (if (2 * y14) < 0 ∨ 12 ≤ (2 * y14).toNatClampNeg then none else (if (bov (2 * y14).toNatClampNeg) = y11 then (if ((2 * y14) + 1) < 0 ∨ 12 ≤ ((2 * y14) + 1).toNatClampNeg then none else (if (bov ((2 * y14) + 1).toNatClampNeg) = 1 then fL_same_b85 k15 fuel qv kev bov wrv opv cs y1 y7 y8 y9 y10 y11 y12 (y13 ||| (1 <<< (y14 &&& 31))) (y14 + 1) else fL_same_b85 k15 fuel qv kev bov wrv opv cs y1 y7 y8 y9 y10 y11 y12 (y13 ||| 0) (y14 + 1))) else fL_same_b85 k15 fuel qv kev bov wrv opv cs y1 y7 y8 y9 y10 y11 y12 (y13 ||| 0) (y14 + 1)))))

noncomputable def fL_same_b32 (k15 : (Nat → Int32) → (Nat → Int32) → (Nat → Int32) → (Nat → Int32) → (Nat → Int64) → CS → Int32 → Int32 → Int32 → Int32 → Int32 → Int32 → Option (Int32 × (Nat → Int64) × (CS))) : Nat → (Nat → Int32) → (Nat → Int32) → (Nat → Int32) → (Nat → Int32) → (Nat → Int64) → CS → Int32 → Int32 → Int32 → Int32 → Int32 → Int32 → Int32 → Int32 → Int32 → Option (Int32 × (Nat → Int64) × (CS))
  | 0, _, _, _, _, _, _, _, _, _, _, _, _, _, _, _ => none
  | fuel + 1, qv, kev, bov, wrv, opv, cs, y1, y7, y8, y9, y10, y11, y12, y13, y14 =>
  (if (1 : Int32) < 0 ∨ 4 ≤ (1 : Int32).toNatClampNeg then none else (if (qv (1 : Int32).toNatClampNeg) ≤ y14 then fL_same_b85 k15 6000 qv kev bov wrv opv cs y1 y7 y8 y9 y10 y11 y12 y13 0 else (if (4 * y14) < 0 ∨ 24 ≤ (4 * y14).toNatClampNeg then none else (if (kev (4 * y14).toNatClampNeg) = y11 then (if ((4 * y14) + 1) < 0 ∨ 24 ≤ ((4 * y14) + 1).toNatClampNeg then none else (if (kev ((4 * y14) + 1).toNatClampNeg) = 1 then fL_same_b32 k15 fuel qv kev bov wrv opv cs y1 y7 y8 y9 y10 y11 (y12 ||| (1 <<< (y14 &&& 31))) y13 (y14 + 1) else fL_same_b32 k15 fuel qv kev bov wrv opv cs y1 y7 y8 y9 y10 y11 (y12 ||| 0) y13 (y14 + 1))) else fL_same_b32 k15 fuel qv kev bov wrv opv cs y1 y7 y8 y9 y10 y11 (y12 ||| 0) y13 (y14 + 1)))))

noncomputable def fL_same_b15 : Nat → (Nat → Int32) → (Nat → Int32) → (Nat → Int32) → (Nat → Int32) → (Nat → Int64) → CS → Int32 → Int32 → Int32 → Int32 → Int32 → Int32 → Option (Int32 × (Nat → Int64) × (CS))
  | 0, _, _, _, _, _, _, _, _, _, _, _, _ => none
  | fuel + 1, qv, kev, bov, wrv, opv, cs, y1, y7, y8, y9, y10, y11 =>
  (if (1 : Int32) < 0 ∨ 4 ≤ (1 : Int32).toNatClampNeg then none else (if (qv (1 : Int32).toNatClampNeg) ≤ y11 then fL_same_b530 qv kev bov wrv opv cs y1 y7 y8 y9 y10 else fL_same_b32 (fL_same_b15 fuel) 6000 qv kev bov wrv opv cs y1 y7 y8 y9 y10 y11 0 0 0))

noncomputable def fL_same (qv : Nat → Int32) (kev : Nat → Int32) (bov : Nat → Int32) (wrv : Nat → Int32) (opv : Nat → Int64) (cs : CS) (x1 : Int32) : Option (Int32 × (Nat → Int64) × (CS)) :=
  fL_same_b15 6000 qv kev bov wrv opv cs x1 0 0 0 0 0
set_option maxHeartbeats 1000000 in
set_option maxRecDepth 100000 in
theorem mL_same (l : Launch) (dC : Nat → ClassId) (dI : Nat → Nat → Nat) (cyI cyO cyL : ClassId) (aq ak ab aw ao : Nat) (ad : Nat → Nat) (had : Nat → Nat → Nat) (qv : Nat → Int32) (kev : Nat → Int32) (bov : Nat → Int32) (wrv : Nat → Int32) (opv : Nat → Int64) (cs : CS) (x1 : Int32) (sz : Nat) (res : Int32 × (Nat → Int64) × (CS)) (h : fL_same qv kev bov wrv opv cs x1 = some res) : Met l yL_same (wsG yL_same cL_same 17 (some .boolean)) ({ frames := 7, cells := 0, slots := 0, locals := 162 }) (cP dC dI cyI cyO cyL sz [.ref (ad 0), .int x1, .ref aq, .ref ak, .ref ab, .ref aw, .ref ao] (((arrW cyI aq 4 qv) ++ (arrW cyI ak 24 kev) ++ (arrW cyI ab 12 bov) ++ (arrW cyI aw 64 wrv) ++ (larrW cyL ao 2 opv)) ++ mainC cyI cyO cyL ad had cs)) (cI dC dI res.1 (((arrW cyI aq 4 qv) ++ (arrW cyI ak 24 kev) ++ (arrW cyI ab 12 bov) ++ (arrW cyI aw 64 wrv) ++ (larrW cyL ao 2 res.2.1)) ++ mainC cyI cyO cyL ad had res.2.2) (va_A (((arrW cyI aq 4 qv) ++ (arrW cyI ak 24 kev) ++ (arrW cyI ab 12 bov) ++ (arrW cyI aw 64 wrv) ++ (larrW cyL ao 2 opv)) ++ mainC cyI cyO cyL ad had cs) sz)) 0 0 (va_A (((arrW cyI aq 4 qv) ++ (arrW cyI ak 24 kev) ++ (arrW cyI ab 12 bov) ++ (arrW cyI aw 64 wrv) ++ (larrW cyL ao 2 opv)) ++ mainC cyI cyO cyL ad had cs) sz) := by
  refine Met.ofW (cc := cL_same) (maxL := 17) (ret := (some .boolean)) (by decide) rfl ?_
  intro p e s m args below meth c s₁ B hml hv
  obtain ⟨rfl, hsz, hP, hK, hD0⟩ := hv
  have hx := B.exec
  have hb := B.bytes
  have hr := B.returns
  have hts := atoms_spec (ws := wsG yL_same cL_same 17 (some .boolean)) B.pre
  have hown : s.vm.findClass RL = some m.cls := findClass_of_methodNamed B.named
  have hlocks := B.notSynchronized
  subst hsz
  have hD := hD0.self (sz := s.heap.size)
  generalize hAe : va_A (((arrW cyI aq 4 qv) ++ (arrW cyI ak 24 kev) ++ (arrW cyI ab 12 bov) ++ (arrW cyI aw 64 wrv) ++ (larrW cyL ao 2 opv)) ++ mainC cyI cyO cyL ad had cs) s.heap.size = A at hD ⊢
  have hA : ∀ q : Nat, s.heap.size ≤ q → A q := fun q h => by rw [← hAe]; exact Or.inr h
  have hS : va_S A s.heap s.heap [] := va_S.rf
  have kB881 : ∀ (qv : Nat → Int32) (kev : Nat → Int32) (bov : Nat → Int32) (wrv : Nat → Int32) (opv : Nat → Int64) (cs : CS) (y7 : Int32) (y8 : Int32) (y9 : Int32) (y10 : Int32) (y11 : Int32), fL_same_b881 qv kev bov wrv opv cs y7 y8 y9 y10 y11 = some res → ∀ (H : Heap) (locs : List Loc), va_P (dC, dI) vwCl (((arrW cyI aq 4 qv) ++ (arrW cyI ak 24 kev) ++ (arrW cyI ab 12 bov) ++ (arrW cyI aw 64 wrv) ++ (larrW cyL ao 2 opv)) ++ mainC cyI cyO cyL ad had cs) H → va_D A (((arrW cyI aq 4 qv) ++ (arrW cyI ak 24 kev) ++ (arrW cyI ab 12 bov) ++ (arrW cyI aw 64 wrv) ++ (larrW cyL ao 2 opv)) ++ mainC cyI cyO cyL ad had cs) → va_S A s.heap H locs → ∀ ls : Array Slot, lv_has ls 17 [(0, .ref (ad 0)), (2, .ref aq), (7, .int y7), (8, .int y8), (9, .int y9), (10, .int y10), (11, .int y11)] → W p l e (headSpec (wsG yL_same cL_same 17 (some .boolean)) ({ frames := 7, cells := 0, slots := 0, locals := 162 })).room s m (([.ref (ad 0), .int x1, .ref aq, .ref ak, .ref ab, .ref aw, .ref ao] : List Value).toArray) below meth c H locs 0 0 (MQ below (cI dC dI res.1 (((arrW cyI aq 4 qv) ++ (arrW cyI ak 24 kev) ++ (arrW cyI ab 12 bov) ++ (arrW cyI aw 64 wrv) ++ (larrW cyL ao 2 res.2.1)) ++ mainC cyI cyO cyL ad had res.2.2) A) ([.ref (ad 0), .int x1, .ref aq, .ref ak, .ref ab, .ref aw, .ref ao] : List Value).toArray s 0 0 A) (F0 m 881 ls []) := by
    intro qv kev bov wrv opv cs y7 y8 y9 y10 y11 h H locs hP hD hS ls hl
    unfold fL_same_b881 at h
    refine lv_aload_n hx hb dL_same_881 rfl (lv_at hl 0 rfl) ?_
    refine lv_iconst (v := 0) hx hb dL_same_882 (by decide) ?_
    obtain ⟨q1, e2, h⟩ := ob h
    refine fr_iG (M := mainC cyI cyO cyL ad had cs) (M' := mainC cyI cyO cyL ad had q1.2) (L' := (((arrW cyI aq 4 qv) ++ (arrW cyI ak 24 kev) ++ (arrW cyI ab 12 bov) ++ (arrW cyI aw 64 wrv) ++ (larrW cyL ao 2 opv)) ++ mainC cyI cyO cyL ad had q1.2)) (F := ((arrW cyI aq 4 qv) ++ (arrW cyI ak 24 kev) ++ (arrW cyI ab 12 bov) ++ (arrW cyI aw 64 wrv) ++ (larrW cyL ao 2 opv))) (va_runV (As := [.int 0]) (rest := []) ⟨hx, hb, hml, hown, hts⟩ (uX7_count l dC dI cyI cyO cyL ad had cs q1.2 0 q1.1 e2 _) (cwV 1 hts (gV ml_L_81 im_X7_count se_X7_count in_X7 co_X7_count) rfl rfl rfl (by decide +kernel) ⟨Nat.le_of_ble_eq_true rfl, Nat.le_of_ble_eq_true rfl⟩) (cP_VG hK hP hD List.perm_append_comm 0 rfl rfl) rfl rfl hl.1 rfl (lv_room (Nat.le_of_ble_eq_true rfl)) dL_same_883 ⟨Nat.zero_le _, Nat.zero_le _⟩) hP hD hS hA List.perm_append_comm List.perm_append_comm mainC_ads (fun H locs hP hD hS => ?_)
    refine lv_aload_n hx hb dL_same_886 rfl (lv_at hl 1 rfl) ?_
    refine lv_iconst (v := 1) hx hb dL_same_887 (by decide) ?_
    obtain ⟨ni3, h⟩ := ifn h
    refine va_iald hx hb hK.1 hP 0 0 rfl rfl ni3 dL_same_888 ?_
    refine lv_icmp_ne (tgt := 982) hx hb dL_same_889 (by decide) (fun c4 => ?_) (fun c4 => ?_)
    · have h := (if_neg c4).symm.trans h
      refine lv_iconst (v := 0) hx hb dL_same_982 (by decide) ?_
      obtain rfl := Option.some.inj h
      exact e_z (v := 0) hx hb hr hlocks rfl hP hS dL_same_983
    · have h := (if_pos c4).symm.trans h
      refine lv_aload_n hx hb dL_same_892 rfl (lv_at hl 0 rfl) ?_
      refine lv_iconst (v := 1) hx hb dL_same_893 (by decide) ?_
      obtain ⟨q5, e6, h⟩ := ob h
      refine fr_iG (M := mainC cyI cyO cyL ad had q1.2) (M' := mainC cyI cyO cyL ad had q5.2) (L' := (((arrW cyI aq 4 qv) ++ (arrW cyI ak 24 kev) ++ (arrW cyI ab 12 bov) ++ (arrW cyI aw 64 wrv) ++ (larrW cyL ao 2 opv)) ++ mainC cyI cyO cyL ad had q5.2)) (F := ((arrW cyI aq 4 qv) ++ (arrW cyI ak 24 kev) ++ (arrW cyI ab 12 bov) ++ (arrW cyI aw 64 wrv) ++ (larrW cyL ao 2 opv))) (va_runV (As := [.int 1]) (rest := []) ⟨hx, hb, hml, hown, hts⟩ (uX7_count l dC dI cyI cyO cyL ad had q1.2 q5.2 1 q5.1 e6 _) (cwV 1 hts (gV ml_L_81 im_X7_count se_X7_count in_X7 co_X7_count) rfl rfl rfl (by decide +kernel) ⟨Nat.le_of_ble_eq_true rfl, Nat.le_of_ble_eq_true rfl⟩) (cP_VG hK hP hD List.perm_append_comm 0 rfl rfl) rfl rfl hl.1 rfl (lv_room (Nat.le_of_ble_eq_true rfl)) dL_same_894 ⟨Nat.zero_le _, Nat.zero_le _⟩) hP hD hS hA List.perm_append_comm List.perm_append_comm mainC_ads (fun H locs hP hD hS => ?_)
      refine lv_iload hx hb dL_same_897 (lv_at hl 2 rfl) ?_
      refine lv_icmp_ne (tgt := 982) hx hb dL_same_899 (by decide) (fun c7 => ?_) (fun c7 => ?_)
      · have h := (if_neg c7).symm.trans h
        refine lv_iconst (v := 0) hx hb dL_same_982 (by decide) ?_
        obtain rfl := Option.some.inj h
        exact e_z (v := 0) hx hb hr hlocks rfl hP hS dL_same_983
      · have h := (if_pos c7).symm.trans h
        refine lv_aload_n hx hb dL_same_902 rfl (lv_at hl 0 rfl) ?_
        refine lv_iconst (v := 2) hx hb dL_same_903 (by decide) ?_
        obtain ⟨q8, e9, h⟩ := ob h
        refine fr_iG (M := mainC cyI cyO cyL ad had q5.2) (M' := mainC cyI cyO cyL ad had q8.2) (L' := (((arrW cyI aq 4 qv) ++ (arrW cyI ak 24 kev) ++ (arrW cyI ab 12 bov) ++ (arrW cyI aw 64 wrv) ++ (larrW cyL ao 2 opv)) ++ mainC cyI cyO cyL ad had q8.2)) (F := ((arrW cyI aq 4 qv) ++ (arrW cyI ak 24 kev) ++ (arrW cyI ab 12 bov) ++ (arrW cyI aw 64 wrv) ++ (larrW cyL ao 2 opv))) (va_runV (As := [.int 2]) (rest := []) ⟨hx, hb, hml, hown, hts⟩ (uX7_count l dC dI cyI cyO cyL ad had q5.2 q8.2 2 q8.1 e9 _) (cwV 1 hts (gV ml_L_81 im_X7_count se_X7_count in_X7 co_X7_count) rfl rfl rfl (by decide +kernel) ⟨Nat.le_of_ble_eq_true rfl, Nat.le_of_ble_eq_true rfl⟩) (cP_VG hK hP hD List.perm_append_comm 0 rfl rfl) rfl rfl hl.1 rfl (lv_room (Nat.le_of_ble_eq_true rfl)) dL_same_904 ⟨Nat.zero_le _, Nat.zero_le _⟩) hP hD hS hA List.perm_append_comm List.perm_append_comm mainC_ads (fun H locs hP hD hS => ?_)
        refine lv_aload_n hx hb dL_same_907 rfl (lv_at hl 1 rfl) ?_
        refine lv_iconst (v := 2) hx hb dL_same_908 (by decide) ?_
        obtain ⟨ni10, h⟩ := ifn h
        refine va_iald hx hb hK.1 hP 0 0 rfl rfl ni10 dL_same_909 ?_
        refine lv_icmp_ne (tgt := 982) hx hb dL_same_910 (by decide) (fun c11 => ?_) (fun c11 => ?_)
        · have h := (if_neg c11).symm.trans h
          refine lv_iconst (v := 0) hx hb dL_same_982 (by decide) ?_
          obtain rfl := Option.some.inj h
          exact e_z (v := 0) hx hb hr hlocks rfl hP hS dL_same_983
        · have h := (if_pos c11).symm.trans h
          refine lv_aload_n hx hb dL_same_913 rfl (lv_at hl 0 rfl) ?_
          refine lv_iconst (v := 3) hx hb dL_same_914 (by decide) ?_
          obtain ⟨q12, e13, h⟩ := ob h
          refine fr_iG (M := mainC cyI cyO cyL ad had q8.2) (M' := mainC cyI cyO cyL ad had q12.2) (L' := (((arrW cyI aq 4 qv) ++ (arrW cyI ak 24 kev) ++ (arrW cyI ab 12 bov) ++ (arrW cyI aw 64 wrv) ++ (larrW cyL ao 2 opv)) ++ mainC cyI cyO cyL ad had q12.2)) (F := ((arrW cyI aq 4 qv) ++ (arrW cyI ak 24 kev) ++ (arrW cyI ab 12 bov) ++ (arrW cyI aw 64 wrv) ++ (larrW cyL ao 2 opv))) (va_runV (As := [.int 3]) (rest := []) ⟨hx, hb, hml, hown, hts⟩ (uX7_count l dC dI cyI cyO cyL ad had q8.2 q12.2 3 q12.1 e13 _) (cwV 1 hts (gV ml_L_81 im_X7_count se_X7_count in_X7 co_X7_count) rfl rfl rfl (by decide +kernel) ⟨Nat.le_of_ble_eq_true rfl, Nat.le_of_ble_eq_true rfl⟩) (cP_VG hK hP hD List.perm_append_comm 0 rfl rfl) rfl rfl hl.1 rfl (lv_room (Nat.le_of_ble_eq_true rfl)) dL_same_915 ⟨Nat.zero_le _, Nat.zero_le _⟩) hP hD hS hA List.perm_append_comm List.perm_append_comm mainC_ads (fun H locs hP hD hS => ?_)
          refine lv_iload hx hb dL_same_918 (lv_at hl 6 rfl) ?_
          refine lv_icmp_ne (tgt := 982) hx hb dL_same_920 (by decide) (fun c14 => ?_) (fun c14 => ?_)
          · have h := (if_neg c14).symm.trans h
            refine lv_iconst (v := 0) hx hb dL_same_982 (by decide) ?_
            obtain rfl := Option.some.inj h
            exact e_z (v := 0) hx hb hr hlocks rfl hP hS dL_same_983
          · have h := (if_pos c14).symm.trans h
            refine lv_aload_n hx hb dL_same_923 rfl (lv_at hl 0 rfl) ?_
            refine lv_iconst (v := 4) hx hb dL_same_924 (by decide) ?_
            obtain ⟨q15, e16, h⟩ := ob h
            refine fr_iG (M := mainC cyI cyO cyL ad had q12.2) (M' := mainC cyI cyO cyL ad had q15.2) (L' := (((arrW cyI aq 4 qv) ++ (arrW cyI ak 24 kev) ++ (arrW cyI ab 12 bov) ++ (arrW cyI aw 64 wrv) ++ (larrW cyL ao 2 opv)) ++ mainC cyI cyO cyL ad had q15.2)) (F := ((arrW cyI aq 4 qv) ++ (arrW cyI ak 24 kev) ++ (arrW cyI ab 12 bov) ++ (arrW cyI aw 64 wrv) ++ (larrW cyL ao 2 opv))) (va_runV (As := [.int 4]) (rest := []) ⟨hx, hb, hml, hown, hts⟩ (uX7_count l dC dI cyI cyO cyL ad had q12.2 q15.2 4 q15.1 e16 _) (cwV 1 hts (gV ml_L_81 im_X7_count se_X7_count in_X7 co_X7_count) rfl rfl rfl (by decide +kernel) ⟨Nat.le_of_ble_eq_true rfl, Nat.le_of_ble_eq_true rfl⟩) (cP_VG hK hP hD List.perm_append_comm 0 rfl rfl) rfl rfl hl.1 rfl (lv_room (Nat.le_of_ble_eq_true rfl)) dL_same_925 ⟨Nat.zero_le _, Nat.zero_le _⟩) hP hD hS hA List.perm_append_comm List.perm_append_comm mainC_ads (fun H locs hP hD hS => ?_)
            refine lv_aload_n hx hb dL_same_928 rfl (lv_at hl 1 rfl) ?_
            refine lv_iconst (v := 3) hx hb dL_same_929 (by decide) ?_
            obtain ⟨ni17, h⟩ := ifn h
            refine va_iald hx hb hK.1 hP 0 0 rfl rfl ni17 dL_same_930 ?_
            refine lv_icmp_ne (tgt := 982) hx hb dL_same_931 (by decide) (fun c18 => ?_) (fun c18 => ?_)
            · have h := (if_neg c18).symm.trans h
              refine lv_iconst (v := 0) hx hb dL_same_982 (by decide) ?_
              obtain rfl := Option.some.inj h
              exact e_z (v := 0) hx hb hr hlocks rfl hP hS dL_same_983
            · have h := (if_pos c18).symm.trans h
              refine lv_aload_n hx hb dL_same_934 rfl (lv_at hl 0 rfl) ?_
              refine lv_iconst (v := 5) hx hb dL_same_935 (by decide) ?_
              obtain ⟨q19, e20, h⟩ := ob h
              refine fr_iG (M := mainC cyI cyO cyL ad had q15.2) (M' := mainC cyI cyO cyL ad had q19.2) (L' := (((arrW cyI aq 4 qv) ++ (arrW cyI ak 24 kev) ++ (arrW cyI ab 12 bov) ++ (arrW cyI aw 64 wrv) ++ (larrW cyL ao 2 opv)) ++ mainC cyI cyO cyL ad had q19.2)) (F := ((arrW cyI aq 4 qv) ++ (arrW cyI ak 24 kev) ++ (arrW cyI ab 12 bov) ++ (arrW cyI aw 64 wrv) ++ (larrW cyL ao 2 opv))) (va_runV (As := [.int 5]) (rest := []) ⟨hx, hb, hml, hown, hts⟩ (uX7_count l dC dI cyI cyO cyL ad had q15.2 q19.2 5 q19.1 e20 _) (cwV 1 hts (gV ml_L_81 im_X7_count se_X7_count in_X7 co_X7_count) rfl rfl rfl (by decide +kernel) ⟨Nat.le_of_ble_eq_true rfl, Nat.le_of_ble_eq_true rfl⟩) (cP_VG hK hP hD List.perm_append_comm 0 rfl rfl) rfl rfl hl.1 rfl (lv_room (Nat.le_of_ble_eq_true rfl)) dL_same_936 ⟨Nat.zero_le _, Nat.zero_le _⟩) hP hD hS hA List.perm_append_comm List.perm_append_comm mainC_ads (fun H locs hP hD hS => ?_)
              refine lv_iload hx hb dL_same_939 (lv_at hl 4 rfl) ?_
              refine lv_icmp_ne (tgt := 982) hx hb dL_same_941 (by decide) (fun c21 => ?_) (fun c21 => ?_)
              · have h := (if_neg c21).symm.trans h
                refine lv_iconst (v := 0) hx hb dL_same_982 (by decide) ?_
                obtain rfl := Option.some.inj h
                exact e_z (v := 0) hx hb hr hlocks rfl hP hS dL_same_983
              · have h := (if_pos c21).symm.trans h
                refine lv_aload_n hx hb dL_same_944 rfl (lv_at hl 0 rfl) ?_
                refine lv_bipush (v := 6) hx hb dL_same_945 (by decide) ?_
                obtain ⟨q22, e23, h⟩ := ob h
                refine fr_iG (M := mainC cyI cyO cyL ad had q19.2) (M' := mainC cyI cyO cyL ad had q22.2) (L' := (((arrW cyI aq 4 qv) ++ (arrW cyI ak 24 kev) ++ (arrW cyI ab 12 bov) ++ (arrW cyI aw 64 wrv) ++ (larrW cyL ao 2 opv)) ++ mainC cyI cyO cyL ad had q22.2)) (F := ((arrW cyI aq 4 qv) ++ (arrW cyI ak 24 kev) ++ (arrW cyI ab 12 bov) ++ (arrW cyI aw 64 wrv) ++ (larrW cyL ao 2 opv))) (va_runV (As := [.int 6]) (rest := []) ⟨hx, hb, hml, hown, hts⟩ (uX7_count l dC dI cyI cyO cyL ad had q19.2 q22.2 6 q22.1 e23 _) (cwV 1 hts (gV ml_L_81 im_X7_count se_X7_count in_X7 co_X7_count) rfl rfl rfl (by decide +kernel) ⟨Nat.le_of_ble_eq_true rfl, Nat.le_of_ble_eq_true rfl⟩) (cP_VG hK hP hD List.perm_append_comm 0 rfl rfl) rfl rfl hl.1 rfl (lv_room (Nat.le_of_ble_eq_true rfl)) dL_same_947 ⟨Nat.zero_le _, Nat.zero_le _⟩) hP hD hS hA List.perm_append_comm List.perm_append_comm mainC_ads (fun H locs hP hD hS => ?_)
                refine lv_iload hx hb dL_same_950 (lv_at hl 5 rfl) ?_
                refine lv_icmp_ne (tgt := 982) hx hb dL_same_952 (by decide) (fun c24 => ?_) (fun c24 => ?_)
                · have h := (if_neg c24).symm.trans h
                  refine lv_iconst (v := 0) hx hb dL_same_982 (by decide) ?_
                  obtain rfl := Option.some.inj h
                  exact e_z (v := 0) hx hb hr hlocks rfl hP hS dL_same_983
                · have h := (if_pos c24).symm.trans h
                  refine lv_aload_n hx hb dL_same_955 rfl (lv_at hl 0 rfl) ?_
                  refine lv_bipush (v := 7) hx hb dL_same_956 (by decide) ?_
                  obtain ⟨q25, e26, h⟩ := ob h
                  refine fr_iG (M := mainC cyI cyO cyL ad had q22.2) (M' := mainC cyI cyO cyL ad had q25.2) (L' := (((arrW cyI aq 4 qv) ++ (arrW cyI ak 24 kev) ++ (arrW cyI ab 12 bov) ++ (arrW cyI aw 64 wrv) ++ (larrW cyL ao 2 opv)) ++ mainC cyI cyO cyL ad had q25.2)) (F := ((arrW cyI aq 4 qv) ++ (arrW cyI ak 24 kev) ++ (arrW cyI ab 12 bov) ++ (arrW cyI aw 64 wrv) ++ (larrW cyL ao 2 opv))) (va_runV (As := [.int 7]) (rest := []) ⟨hx, hb, hml, hown, hts⟩ (uX7_count l dC dI cyI cyO cyL ad had q22.2 q25.2 7 q25.1 e26 _) (cwV 1 hts (gV ml_L_81 im_X7_count se_X7_count in_X7 co_X7_count) rfl rfl rfl (by decide +kernel) ⟨Nat.le_of_ble_eq_true rfl, Nat.le_of_ble_eq_true rfl⟩) (cP_VG hK hP hD List.perm_append_comm 0 rfl rfl) rfl rfl hl.1 rfl (lv_room (Nat.le_of_ble_eq_true rfl)) dL_same_958 ⟨Nat.zero_le _, Nat.zero_le _⟩) hP hD hS hA List.perm_append_comm List.perm_append_comm mainC_ads (fun H locs hP hD hS => ?_)
                  refine lv_aload_n hx hb dL_same_961 rfl (lv_at hl 1 rfl) ?_
                  refine lv_iconst (v := 0) hx hb dL_same_962 (by decide) ?_
                  obtain ⟨ni27, h⟩ := ifn h
                  refine va_iald hx hb hK.1 hP 0 0 rfl rfl ni27 dL_same_963 ?_
                  refine lv_icmp_ne (tgt := 982) hx hb dL_same_964 (by decide) (fun c28 => ?_) (fun c28 => ?_)
                  · have h := (if_neg c28).symm.trans h
                    refine lv_iconst (v := 0) hx hb dL_same_982 (by decide) ?_
                    obtain rfl := Option.some.inj h
                    exact e_z (v := 0) hx hb hr hlocks rfl hP hS dL_same_983
                  · have h := (if_pos c28).symm.trans h
                    refine lv_aload_n hx hb dL_same_967 rfl (lv_at hl 0 rfl) ?_
                    refine lv_bipush (v := 8) hx hb dL_same_968 (by decide) ?_
                    obtain ⟨q29, e30, h⟩ := ob h
                    refine fr_iG (M := mainC cyI cyO cyL ad had q25.2) (M' := mainC cyI cyO cyL ad had q29.2) (L' := (((arrW cyI aq 4 qv) ++ (arrW cyI ak 24 kev) ++ (arrW cyI ab 12 bov) ++ (arrW cyI aw 64 wrv) ++ (larrW cyL ao 2 opv)) ++ mainC cyI cyO cyL ad had q29.2)) (F := ((arrW cyI aq 4 qv) ++ (arrW cyI ak 24 kev) ++ (arrW cyI ab 12 bov) ++ (arrW cyI aw 64 wrv) ++ (larrW cyL ao 2 opv))) (va_runV (As := [.int 8]) (rest := []) ⟨hx, hb, hml, hown, hts⟩ (uX7_count l dC dI cyI cyO cyL ad had q25.2 q29.2 8 q29.1 e30 _) (cwV 1 hts (gV ml_L_81 im_X7_count se_X7_count in_X7 co_X7_count) rfl rfl rfl (by decide +kernel) ⟨Nat.le_of_ble_eq_true rfl, Nat.le_of_ble_eq_true rfl⟩) (cP_VG hK hP hD List.perm_append_comm 0 rfl rfl) rfl rfl hl.1 rfl (lv_room (Nat.le_of_ble_eq_true rfl)) dL_same_970 ⟨Nat.zero_le _, Nat.zero_le _⟩) hP hD hS hA List.perm_append_comm List.perm_append_comm mainC_ads (fun H locs hP hD hS => ?_)
                    refine lv_iload hx hb dL_same_973 (lv_at hl 3 rfl) ?_
                    refine lv_icmp_ne (tgt := 982) hx hb dL_same_975 (by decide) (fun c31 => ?_) (fun c31 => ?_)
                    · have h := (if_neg c31).symm.trans h
                      refine lv_iconst (v := 0) hx hb dL_same_982 (by decide) ?_
                      obtain rfl := Option.some.inj h
                      exact e_z (v := 0) hx hb hr hlocks rfl hP hS dL_same_983
                    · have h := (if_pos c31).symm.trans h
                      refine lv_iconst (v := 1) hx hb dL_same_978 (by decide) ?_
                      refine lv_goto (tgt := 983) hx hb dL_same_979 (by decide) ?_
                      obtain rfl := Option.some.inj h
                      exact e_z (v := 1) hx hb hr hlocks rfl hP hS dL_same_983
  have kB790 : ∀ (k708 : (Nat → Int32) → (Nat → Int32) → (Nat → Int32) → (Nat → Int32) → (Nat → Int64) → CS → Int32 → Int32 → Int32 → Int32 → Int32 → Int32 → Option (Int32 × (Nat → Int64) × (CS))) (hk708 : ∀ (qv : Nat → Int32) (kev : Nat → Int32) (bov : Nat → Int32) (wrv : Nat → Int32) (opv : Nat → Int64) (cs : CS) (y7 : Int32) (y8 : Int32) (y9 : Int32) (y10 : Int32) (y11 : Int32) (y12 : Int32), k708 qv kev bov wrv opv cs y7 y8 y9 y10 y11 y12 = some res → ∀ (H : Heap) (locs : List Loc), va_P (dC, dI) vwCl (((arrW cyI aq 4 qv) ++ (arrW cyI ak 24 kev) ++ (arrW cyI ab 12 bov) ++ (arrW cyI aw 64 wrv) ++ (larrW cyL ao 2 opv)) ++ mainC cyI cyO cyL ad had cs) H → va_D A (((arrW cyI aq 4 qv) ++ (arrW cyI ak 24 kev) ++ (arrW cyI ab 12 bov) ++ (arrW cyI aw 64 wrv) ++ (larrW cyL ao 2 opv)) ++ mainC cyI cyO cyL ad had cs) → va_S A s.heap H locs → ∀ ls : Array Slot, lv_has ls 17 [(0, .ref (ad 0)), (2, .ref aq), (5, .ref aw), (7, .int y7), (8, .int y8), (9, .int y9), (10, .int y10), (11, .int y11), (12, .int y12)] → W p l e (headSpec (wsG yL_same cL_same 17 (some .boolean)) ({ frames := 7, cells := 0, slots := 0, locals := 162 })).room s m (([.ref (ad 0), .int x1, .ref aq, .ref ak, .ref ab, .ref aw, .ref ao] : List Value).toArray) below meth c H locs 0 0 (MQ below (cI dC dI res.1 (((arrW cyI aq 4 qv) ++ (arrW cyI ak 24 kev) ++ (arrW cyI ab 12 bov) ++ (arrW cyI aw 64 wrv) ++ (larrW cyL ao 2 res.2.1)) ++ mainC cyI cyO cyL ad had res.2.2) A) ([.ref (ad 0), .int x1, .ref aq, .ref ak, .ref ab, .ref aw, .ref ao] : List Value).toArray s 0 0 A) (F0 m 708 ls [])) (qv : Nat → Int32) (kev : Nat → Int32) (bov : Nat → Int32) (wrv : Nat → Int32) (opv : Nat → Int64) (cs : CS) (y7 : Int32) (y8 : Int32) (y9 : Int32) (y10 : Int32) (y11 : Int32) (y12 : Int32) (y13 : Int32) (z0 : Int32) (z1 : Int32), fL_same_b790 k708 qv kev bov wrv opv cs y7 y8 y9 y10 y11 y12 y13 z0 z1 = some res → ∀ (H : Heap) (locs : List Loc), va_P (dC, dI) vwCl (((arrW cyI aq 4 qv) ++ (arrW cyI ak 24 kev) ++ (arrW cyI ab 12 bov) ++ (arrW cyI aw 64 wrv) ++ (larrW cyL ao 2 opv)) ++ mainC cyI cyO cyL ad had cs) H → va_D A (((arrW cyI aq 4 qv) ++ (arrW cyI ak 24 kev) ++ (arrW cyI ab 12 bov) ++ (arrW cyI aw 64 wrv) ++ (larrW cyL ao 2 opv)) ++ mainC cyI cyO cyL ad had cs) → va_S A s.heap H locs → ∀ ls : Array Slot, lv_has ls 17 [(0, .ref (ad 0)), (2, .ref aq), (5, .ref aw), (7, .int y7), (8, .int y8), (9, .int y9), (10, .int y10), (11, .int y11), (12, .int y12), (13, .int y13)] → W p l e (headSpec (wsG yL_same cL_same 17 (some .boolean)) ({ frames := 7, cells := 0, slots := 0, locals := 162 })).room s m (([.ref (ad 0), .int x1, .ref aq, .ref ak, .ref ab, .ref aw, .ref ao] : List Value).toArray) below meth c H locs 0 0 (MQ below (cI dC dI res.1 (((arrW cyI aq 4 qv) ++ (arrW cyI ak 24 kev) ++ (arrW cyI ab 12 bov) ++ (arrW cyI aw 64 wrv) ++ (larrW cyL ao 2 res.2.1)) ++ mainC cyI cyO cyL ad had res.2.2) A) ([.ref (ad 0), .int x1, .ref aq, .ref ak, .ref ab, .ref aw, .ref ao] : List Value).toArray s 0 0 A) (F0 m 790 ls [.int z1, .int z0]) := by
    intro k708 hk708 qv kev bov wrv opv cs y7 y8 y9 y10 y11 y12 y13 z0 z1 h H locs hP hD hS ls hl
    unfold fL_same_b790 at h
    refine lv_icmp_ne (tgt := 873) hx hb dL_same_790 (by decide) (fun c32 => ?_) (fun c32 => ?_)
    · have h := (if_neg c32).symm.trans h
      refine lv_iconst (v := 0) hx hb dL_same_873 (by decide) ?_
      obtain rfl := Option.some.inj h
      exact e_z (v := 0) hx hb hr hlocks rfl hP hS dL_same_874
    · have h := (if_pos c32).symm.trans h
      refine lv_aload_n hx hb dL_same_793 rfl (lv_at hl 0 rfl) ?_
      refine lv_iload hx hb dL_same_794 (lv_at hl 8 rfl) ?_
      refine lv_iconst (v := 1) hx hb dL_same_796 (by decide) ?_
      obtain ⟨q33, e34, h⟩ := ob h
      refine fr_iG (M := mainC cyI cyO cyL ad had cs) (M' := mainC cyI cyO cyL ad had q33.2) (L' := (((arrW cyI aq 4 qv) ++ (arrW cyI ak 24 kev) ++ (arrW cyI ab 12 bov) ++ (arrW cyI aw 64 wrv) ++ (larrW cyL ao 2 opv)) ++ mainC cyI cyO cyL ad had q33.2)) (F := ((arrW cyI aq 4 qv) ++ (arrW cyI ak 24 kev) ++ (arrW cyI ab 12 bov) ++ (arrW cyI aw 64 wrv) ++ (larrW cyL ao 2 opv))) (va_runV (As := [.int y12, .int 1]) (rest := []) ⟨hx, hb, hml, hown, hts⟩ (uX7_wrap l dC dI cyI cyO cyL ad had cs q33.2 y12 1 q33.1 e34 _) (cwV 2 hts (gV ml_L_87 im_X7_wrap se_X7_wrap in_X7 co_X7_wrap) rfl rfl rfl (by decide +kernel) ⟨Nat.le_of_ble_eq_true rfl, Nat.le_of_ble_eq_true rfl⟩) (cP_VG hK hP hD List.perm_append_comm 0 rfl rfl) rfl rfl hl.1 rfl (lv_room (Nat.le_of_ble_eq_true rfl)) dL_same_797 ⟨Nat.zero_le _, Nat.zero_le _⟩) hP hD hS hA List.perm_append_comm List.perm_append_comm mainC_ads (fun H locs hP hD hS => ?_)
      refine lv_iload hx hb dL_same_800 (lv_at hl 9 rfl) ?_
      refine fr_ir (M := ([] : va_W)) (va_runS (As := [.int y13]) (rest := [.int q33.1]) ⟨hx, hb, hml, hown, hts⟩ (mL_which l dC dI cyI cyO cyL y13 _ (fL_which y13) rfl) (va_cwS 1 hts (gS ml_L_28 st_L_which in_L co_L_which) rfl rfl rfl (by decide +kernel) ⟨Nat.le_of_ble_eq_true rfl, Nat.le_of_ble_eq_true rfl⟩) (cP_S hK hP hD [] rfl rfl) rfl rfl hl.1 rfl (lv_room (Nat.le_of_ble_eq_true rfl)) dL_same_802 ⟨Nat.zero_le _, Nat.zero_le _⟩) hP hD hS hA [] rfl (fun H locs hP hS => ?_)
      refine lv_icmp_ne (tgt := 873) hx hb dL_same_805 (by decide) (fun c35 => ?_) (fun c35 => ?_)
      · have h := (if_neg c35).symm.trans h
        refine lv_iconst (v := 0) hx hb dL_same_873 (by decide) ?_
        obtain rfl := Option.some.inj h
        exact e_z (v := 0) hx hb hr hlocks rfl hP hS dL_same_874
      · have h := (if_pos c35).symm.trans h
        refine lv_aload_n hx hb dL_same_808 rfl (lv_at hl 0 rfl) ?_
        refine lv_iload hx hb dL_same_809 (lv_at hl 8 rfl) ?_
        refine lv_iconst (v := 2) hx hb dL_same_811 (by decide) ?_
        obtain ⟨q36, e37, h⟩ := ob h
        refine fr_iG (M := mainC cyI cyO cyL ad had q33.2) (M' := mainC cyI cyO cyL ad had q36.2) (L' := (((arrW cyI aq 4 qv) ++ (arrW cyI ak 24 kev) ++ (arrW cyI ab 12 bov) ++ (arrW cyI aw 64 wrv) ++ (larrW cyL ao 2 opv)) ++ mainC cyI cyO cyL ad had q36.2)) (F := ((arrW cyI aq 4 qv) ++ (arrW cyI ak 24 kev) ++ (arrW cyI ab 12 bov) ++ (arrW cyI aw 64 wrv) ++ (larrW cyL ao 2 opv))) (va_runV (As := [.int y12, .int 2]) (rest := []) ⟨hx, hb, hml, hown, hts⟩ (uX7_wrap l dC dI cyI cyO cyL ad had q33.2 q36.2 y12 2 q36.1 e37 _) (cwV 2 hts (gV ml_L_87 im_X7_wrap se_X7_wrap in_X7 co_X7_wrap) rfl rfl rfl (by decide +kernel) ⟨Nat.le_of_ble_eq_true rfl, Nat.le_of_ble_eq_true rfl⟩) (cP_VG hK hP hD List.perm_append_comm 0 rfl rfl) rfl rfl hl.1 rfl (lv_room (Nat.le_of_ble_eq_true rfl)) dL_same_812 ⟨Nat.zero_le _, Nat.zero_le _⟩) hP hD hS hA List.perm_append_comm List.perm_append_comm mainC_ads (fun H locs hP hD hS => ?_)
        refine lv_iload hx hb dL_same_815 (lv_at hl 9 rfl) ?_
        refine fr_ir (M := ([] : va_W)) (va_runS (As := [.int y13]) (rest := [.int q36.1]) ⟨hx, hb, hml, hown, hts⟩ (mL_closer l dC dI cyI cyO cyL y13 _ (fL_closer y13) rfl) (va_cwS 1 hts (gS ml_L_25 st_L_closer in_L co_L_closer) rfl rfl rfl (by decide +kernel) ⟨Nat.le_of_ble_eq_true rfl, Nat.le_of_ble_eq_true rfl⟩) (cP_S hK hP hD [] rfl rfl) rfl rfl hl.1 rfl (lv_room (Nat.le_of_ble_eq_true rfl)) dL_same_817 ⟨Nat.zero_le _, Nat.zero_le _⟩) hP hD hS hA [] rfl (fun H locs hP hS => ?_)
        refine lv_icmp_ne (tgt := 873) hx hb dL_same_820 (by decide) (fun c38 => ?_) (fun c38 => ?_)
        · have h := (if_neg c38).symm.trans h
          refine lv_iconst (v := 0) hx hb dL_same_873 (by decide) ?_
          obtain rfl := Option.some.inj h
          exact e_z (v := 0) hx hb hr hlocks rfl hP hS dL_same_874
        · have h := (if_pos c38).symm.trans h
          refine lv_aload_n hx hb dL_same_823 rfl (lv_at hl 0 rfl) ?_
          refine lv_iload hx hb dL_same_824 (lv_at hl 8 rfl) ?_
          refine lv_iconst (v := 3) hx hb dL_same_826 (by decide) ?_
          obtain ⟨q39, e40, h⟩ := ob h
          refine fr_iG (M := mainC cyI cyO cyL ad had q36.2) (M' := mainC cyI cyO cyL ad had q39.2) (L' := (((arrW cyI aq 4 qv) ++ (arrW cyI ak 24 kev) ++ (arrW cyI ab 12 bov) ++ (arrW cyI aw 64 wrv) ++ (larrW cyL ao 2 opv)) ++ mainC cyI cyO cyL ad had q39.2)) (F := ((arrW cyI aq 4 qv) ++ (arrW cyI ak 24 kev) ++ (arrW cyI ab 12 bov) ++ (arrW cyI aw 64 wrv) ++ (larrW cyL ao 2 opv))) (va_runV (As := [.int y12, .int 3]) (rest := []) ⟨hx, hb, hml, hown, hts⟩ (uX7_wrap l dC dI cyI cyO cyL ad had q36.2 q39.2 y12 3 q39.1 e40 _) (cwV 2 hts (gV ml_L_87 im_X7_wrap se_X7_wrap in_X7 co_X7_wrap) rfl rfl rfl (by decide +kernel) ⟨Nat.le_of_ble_eq_true rfl, Nat.le_of_ble_eq_true rfl⟩) (cP_VG hK hP hD List.perm_append_comm 0 rfl rfl) rfl rfl hl.1 rfl (lv_room (Nat.le_of_ble_eq_true rfl)) dL_same_827 ⟨Nat.zero_le _, Nat.zero_le _⟩) hP hD hS hA List.perm_append_comm List.perm_append_comm mainC_ads (fun H locs hP hD hS => ?_)
          refine lv_iload hx hb dL_same_830 (lv_at hl 9 rfl) ?_
          refine fr_ir (M := ([] : va_W)) (va_runS (As := [.int y13]) (rest := [.int q39.1]) ⟨hx, hb, hml, hown, hts⟩ (mL_closed l dC dI cyI cyO cyL y13 _ (fL_closed y13) rfl) (va_cwS 1 hts (gS ml_L_40 st_L_closed in_L co_L_closed) rfl rfl rfl (by decide +kernel) ⟨Nat.le_of_ble_eq_true rfl, Nat.le_of_ble_eq_true rfl⟩) (cP_S hK hP hD [] rfl rfl) rfl rfl hl.1 rfl (lv_room (Nat.le_of_ble_eq_true rfl)) dL_same_832 ⟨Nat.zero_le _, Nat.zero_le _⟩) hP hD hS hA [] rfl (fun H locs hP hS => ?_)
          refine lv_icmp_ne (tgt := 873) hx hb dL_same_835 (by decide) (fun c41 => ?_) (fun c41 => ?_)
          · have h := (if_neg c41).symm.trans h
            refine lv_iconst (v := 0) hx hb dL_same_873 (by decide) ?_
            obtain rfl := Option.some.inj h
            exact e_z (v := 0) hx hb hr hlocks rfl hP hS dL_same_874
          · have h := (if_pos c41).symm.trans h
            refine lv_aload_n hx hb dL_same_838 rfl (lv_at hl 0 rfl) ?_
            refine lv_iload hx hb dL_same_839 (lv_at hl 8 rfl) ?_
            refine lv_iconst (v := 4) hx hb dL_same_841 (by decide) ?_
            obtain ⟨q42, e43, h⟩ := ob h
            refine fr_iG (M := mainC cyI cyO cyL ad had q39.2) (M' := mainC cyI cyO cyL ad had q42.2) (L' := (((arrW cyI aq 4 qv) ++ (arrW cyI ak 24 kev) ++ (arrW cyI ab 12 bov) ++ (arrW cyI aw 64 wrv) ++ (larrW cyL ao 2 opv)) ++ mainC cyI cyO cyL ad had q42.2)) (F := ((arrW cyI aq 4 qv) ++ (arrW cyI ak 24 kev) ++ (arrW cyI ab 12 bov) ++ (arrW cyI aw 64 wrv) ++ (larrW cyL ao 2 opv))) (va_runV (As := [.int y12, .int 4]) (rest := []) ⟨hx, hb, hml, hown, hts⟩ (uX7_wrap l dC dI cyI cyO cyL ad had q39.2 q42.2 y12 4 q42.1 e43 _) (cwV 2 hts (gV ml_L_87 im_X7_wrap se_X7_wrap in_X7 co_X7_wrap) rfl rfl rfl (by decide +kernel) ⟨Nat.le_of_ble_eq_true rfl, Nat.le_of_ble_eq_true rfl⟩) (cP_VG hK hP hD List.perm_append_comm 0 rfl rfl) rfl rfl hl.1 rfl (lv_room (Nat.le_of_ble_eq_true rfl)) dL_same_842 ⟨Nat.zero_le _, Nat.zero_le _⟩) hP hD hS hA List.perm_append_comm List.perm_append_comm mainC_ads (fun H locs hP hD hS => ?_)
            refine lv_iload hx hb dL_same_845 (lv_at hl 9 rfl) ?_
            refine lv_bipush (v := 18) hx hb dL_same_847 (by decide) ?_
            refine lv_ishr hx hb dL_same_849 ?_
            refine lv_iconst (v := 1) hx hb dL_same_850 (by decide) ?_
            refine lv_iand hx hb dL_same_851 ?_
            refine lv_icmp_ne (tgt := 873) hx hb dL_same_852 (by decide) (fun c44 => ?_) (fun c44 => ?_)
            · have h := (if_neg c44).symm.trans h
              refine lv_iconst (v := 0) hx hb dL_same_873 (by decide) ?_
              obtain rfl := Option.some.inj h
              exact e_z (v := 0) hx hb hr hlocks rfl hP hS dL_same_874
            · have h := (if_pos c44).symm.trans h
              refine lv_aload_n hx hb dL_same_855 rfl (lv_at hl 0 rfl) ?_
              refine lv_iload hx hb dL_same_856 (lv_at hl 8 rfl) ?_
              refine lv_iconst (v := 5) hx hb dL_same_858 (by decide) ?_
              obtain ⟨q45, e46, h⟩ := ob h
              refine fr_iG (M := mainC cyI cyO cyL ad had q42.2) (M' := mainC cyI cyO cyL ad had q45.2) (L' := (((arrW cyI aq 4 qv) ++ (arrW cyI ak 24 kev) ++ (arrW cyI ab 12 bov) ++ (arrW cyI aw 64 wrv) ++ (larrW cyL ao 2 opv)) ++ mainC cyI cyO cyL ad had q45.2)) (F := ((arrW cyI aq 4 qv) ++ (arrW cyI ak 24 kev) ++ (arrW cyI ab 12 bov) ++ (arrW cyI aw 64 wrv) ++ (larrW cyL ao 2 opv))) (va_runV (As := [.int y12, .int 5]) (rest := []) ⟨hx, hb, hml, hown, hts⟩ (uX7_wrap l dC dI cyI cyO cyL ad had q42.2 q45.2 y12 5 q45.1 e46 _) (cwV 2 hts (gV ml_L_87 im_X7_wrap se_X7_wrap in_X7 co_X7_wrap) rfl rfl rfl (by decide +kernel) ⟨Nat.le_of_ble_eq_true rfl, Nat.le_of_ble_eq_true rfl⟩) (cP_VG hK hP hD List.perm_append_comm 0 rfl rfl) rfl rfl hl.1 rfl (lv_room (Nat.le_of_ble_eq_true rfl)) dL_same_859 ⟨Nat.zero_le _, Nat.zero_le _⟩) hP hD hS hA List.perm_append_comm List.perm_append_comm mainC_ads (fun H locs hP hD hS => ?_)
              refine lv_iload hx hb dL_same_862 (lv_at hl 9 rfl) ?_
              refine lv_bipush (v := 19) hx hb dL_same_864 (by decide) ?_
              refine lv_ishr hx hb dL_same_866 ?_
              refine lv_bipush (v := 7) hx hb dL_same_867 (by decide) ?_
              refine lv_iand hx hb dL_same_869 ?_
              refine lv_icmp_eq (tgt := 875) hx hb dL_same_870 (by decide) (fun c47 => ?_) (fun c47 => ?_)
              · have h := (if_pos c47).symm.trans h
                refine lv_iinc (v := (y12 + 1)) (lv' := [(12, .int (y12 + 1)), (0, .ref (ad 0)), (2, .ref aq), (5, .ref aw), (7, .int y7), (8, .int y8), (9, .int y9), (10, .int y10), (11, .int y11), (13, .int y13)]) hx hb dL_same_875 hl (k := 8) rfl rfl (by decide) rfl (fun ls hl => ?_)
                refine lv_goto (tgt := 708) hx hb dL_same_878 (by decide) ?_
                exact hk708 qv kev bov wrv opv q45.2 y7 y8 y9 y10 y11 (y12 + 1) h _ _ hP hD hS ls (lv_sub hl [1, 2, 3, 4, 5, 6, 7, 8, 0] rfl)
              · have h := (if_neg c47).symm.trans h
                refine lv_iconst (v := 0) hx hb dL_same_873 (by decide) ?_
                obtain rfl := Option.some.inj h
                exact e_z (v := 0) hx hb hr hlocks rfl hP hS dL_same_874
  have kB716 : ∀ (k708 : (Nat → Int32) → (Nat → Int32) → (Nat → Int32) → (Nat → Int32) → (Nat → Int64) → CS → Int32 → Int32 → Int32 → Int32 → Int32 → Int32 → Option (Int32 × (Nat → Int64) × (CS))) (hk708 : ∀ (qv : Nat → Int32) (kev : Nat → Int32) (bov : Nat → Int32) (wrv : Nat → Int32) (opv : Nat → Int64) (cs : CS) (y7 : Int32) (y8 : Int32) (y9 : Int32) (y10 : Int32) (y11 : Int32) (y12 : Int32), k708 qv kev bov wrv opv cs y7 y8 y9 y10 y11 y12 = some res → ∀ (H : Heap) (locs : List Loc), va_P (dC, dI) vwCl (((arrW cyI aq 4 qv) ++ (arrW cyI ak 24 kev) ++ (arrW cyI ab 12 bov) ++ (arrW cyI aw 64 wrv) ++ (larrW cyL ao 2 opv)) ++ mainC cyI cyO cyL ad had cs) H → va_D A (((arrW cyI aq 4 qv) ++ (arrW cyI ak 24 kev) ++ (arrW cyI ab 12 bov) ++ (arrW cyI aw 64 wrv) ++ (larrW cyL ao 2 opv)) ++ mainC cyI cyO cyL ad had cs) → va_S A s.heap H locs → ∀ ls : Array Slot, lv_has ls 17 [(0, .ref (ad 0)), (2, .ref aq), (5, .ref aw), (7, .int y7), (8, .int y8), (9, .int y9), (10, .int y10), (11, .int y11), (12, .int y12)] → W p l e (headSpec (wsG yL_same cL_same 17 (some .boolean)) ({ frames := 7, cells := 0, slots := 0, locals := 162 })).room s m (([.ref (ad 0), .int x1, .ref aq, .ref ak, .ref ab, .ref aw, .ref ao] : List Value).toArray) below meth c H locs 0 0 (MQ below (cI dC dI res.1 (((arrW cyI aq 4 qv) ++ (arrW cyI ak 24 kev) ++ (arrW cyI ab 12 bov) ++ (arrW cyI aw 64 wrv) ++ (larrW cyL ao 2 res.2.1)) ++ mainC cyI cyO cyL ad had res.2.2) A) ([.ref (ad 0), .int x1, .ref aq, .ref ak, .ref ab, .ref aw, .ref ao] : List Value).toArray s 0 0 A) (F0 m 708 ls [])) (qv : Nat → Int32) (kev : Nat → Int32) (bov : Nat → Int32) (wrv : Nat → Int32) (opv : Nat → Int64) (cs : CS) (y7 : Int32) (y8 : Int32) (y9 : Int32) (y10 : Int32) (y11 : Int32) (y12 : Int32), fL_same_b716 k708 qv kev bov wrv opv cs y7 y8 y9 y10 y11 y12 = some res → ∀ (H : Heap) (locs : List Loc), va_P (dC, dI) vwCl (((arrW cyI aq 4 qv) ++ (arrW cyI ak 24 kev) ++ (arrW cyI ab 12 bov) ++ (arrW cyI aw 64 wrv) ++ (larrW cyL ao 2 opv)) ++ mainC cyI cyO cyL ad had cs) H → va_D A (((arrW cyI aq 4 qv) ++ (arrW cyI ak 24 kev) ++ (arrW cyI ab 12 bov) ++ (arrW cyI aw 64 wrv) ++ (larrW cyL ao 2 opv)) ++ mainC cyI cyO cyL ad had cs) → va_S A s.heap H locs → ∀ ls : Array Slot, lv_has ls 17 [(0, .ref (ad 0)), (2, .ref aq), (5, .ref aw), (7, .int y7), (8, .int y8), (9, .int y9), (10, .int y10), (11, .int y11), (12, .int y12)] → W p l e (headSpec (wsG yL_same cL_same 17 (some .boolean)) ({ frames := 7, cells := 0, slots := 0, locals := 162 })).room s m (([.ref (ad 0), .int x1, .ref aq, .ref ak, .ref ab, .ref aw, .ref ao] : List Value).toArray) below meth c H locs 0 0 (MQ below (cI dC dI res.1 (((arrW cyI aq 4 qv) ++ (arrW cyI ak 24 kev) ++ (arrW cyI ab 12 bov) ++ (arrW cyI aw 64 wrv) ++ (larrW cyL ao 2 res.2.1)) ++ mainC cyI cyO cyL ad had res.2.2) A) ([.ref (ad 0), .int x1, .ref aq, .ref ak, .ref ab, .ref aw, .ref ao] : List Value).toArray s 0 0 A) (F0 m 716 ls []) := by
    intro k708 hk708 qv kev bov wrv opv cs y7 y8 y9 y10 y11 y12 h H locs hP hD hS ls hl
    unfold fL_same_b716 at h
    refine lv_aload hx hb dL_same_716 (lv_at hl 2 rfl) ?_
    refine lv_iload hx hb dL_same_718 (lv_at hl 8 rfl) ?_
    obtain ⟨ni48, h⟩ := ifn h
    refine va_iald hx hb hK.1 hP 3 0 rfl rfl ni48 dL_same_720 ?_
    refine lv_istore (lv' := [(13, .int (wrv y12.toNatClampNeg)), (0, .ref (ad 0)), (2, .ref aq), (5, .ref aw), (7, .int y7), (8, .int y8), (9, .int y9), (10, .int y10), (11, .int y11), (12, .int y12)]) hx hb dL_same_721 hl (by decide) rfl (fun ls hl => ?_)
    refine lv_iload hx hb dL_same_723 (lv_at hl 6 rfl) ?_
    refine lv_iload hx hb dL_same_725 (lv_at hl 0 rfl) ?_
    refine lv_bipush (v := 18) hx hb dL_same_727 (by decide) ?_
    refine lv_ishr hx hb dL_same_729 ?_
    refine lv_iconst (v := 1) hx hb dL_same_730 (by decide) ?_
    refine lv_iand hx hb dL_same_731 ?_
    refine lv_iadd hx hb dL_same_732 ?_
    refine lv_istore (lv' := [(9, .int (y9 + (((wrv y12.toNatClampNeg) >>> ((18 : Int32) &&& 31)) &&& 1))), (13, .int (wrv y12.toNatClampNeg)), (0, .ref (ad 0)), (2, .ref aq), (5, .ref aw), (7, .int y7), (8, .int y8), (10, .int y10), (11, .int y11), (12, .int y12)]) hx hb dL_same_733 hl (by decide) rfl (fun ls hl => ?_)
    refine lv_iload hx hb dL_same_735 (lv_at hl 7 rfl) ?_
    refine lv_iload hx hb dL_same_737 (lv_at hl 1 rfl) ?_
    refine lv_bipush (v := 19) hx hb dL_same_739 (by decide) ?_
    refine lv_ishr hx hb dL_same_741 ?_
    refine lv_iconst (v := 1) hx hb dL_same_742 (by decide) ?_
    refine lv_iand hx hb dL_same_743 ?_
    refine lv_iload hx hb dL_same_744 (lv_at hl 1 rfl) ?_
    refine lv_bipush (v := 20) hx hb dL_same_746 (by decide) ?_
    refine lv_ishr hx hb dL_same_748 ?_
    refine lv_iconst (v := 1) hx hb dL_same_749 (by decide) ?_
    refine lv_iand hx hb dL_same_750 ?_
    refine lv_iadd hx hb dL_same_751 ?_
    refine lv_iload hx hb dL_same_752 (lv_at hl 1 rfl) ?_
    refine lv_bipush (v := 21) hx hb dL_same_754 (by decide) ?_
    refine lv_ishr hx hb dL_same_756 ?_
    refine lv_iconst (v := 1) hx hb dL_same_757 (by decide) ?_
    refine lv_iand hx hb dL_same_758 ?_
    refine lv_iadd hx hb dL_same_759 ?_
    refine lv_iadd hx hb dL_same_760 ?_
    refine lv_istore (lv' := [(10, .int (y10 + (((((wrv y12.toNatClampNeg) >>> ((19 : Int32) &&& 31)) &&& 1) + (((wrv y12.toNatClampNeg) >>> ((20 : Int32) &&& 31)) &&& 1)) + (((wrv y12.toNatClampNeg) >>> ((21 : Int32) &&& 31)) &&& 1)))), (9, .int (y9 + (((wrv y12.toNatClampNeg) >>> ((18 : Int32) &&& 31)) &&& 1))), (13, .int (wrv y12.toNatClampNeg)), (0, .ref (ad 0)), (2, .ref aq), (5, .ref aw), (7, .int y7), (8, .int y8), (11, .int y11), (12, .int y12)]) hx hb dL_same_761 hl (by decide) rfl (fun ls hl => ?_)
    refine lv_aload_n hx hb dL_same_763 rfl (lv_at hl 3 rfl) ?_
    refine lv_iload hx hb dL_same_764 (lv_at hl 9 rfl) ?_
    refine lv_iconst (v := 0) hx hb dL_same_766 (by decide) ?_
    obtain ⟨q49, e50, h⟩ := ob h
    refine fr_iG (M := mainC cyI cyO cyL ad had cs) (M' := mainC cyI cyO cyL ad had q49.2) (L' := (((arrW cyI aq 4 qv) ++ (arrW cyI ak 24 kev) ++ (arrW cyI ab 12 bov) ++ (arrW cyI aw 64 wrv) ++ (larrW cyL ao 2 opv)) ++ mainC cyI cyO cyL ad had q49.2)) (F := ((arrW cyI aq 4 qv) ++ (arrW cyI ak 24 kev) ++ (arrW cyI ab 12 bov) ++ (arrW cyI aw 64 wrv) ++ (larrW cyL ao 2 opv))) (va_runV (As := [.int y12, .int 0]) (rest := []) ⟨hx, hb, hml, hown, hts⟩ (uX7_wrap l dC dI cyI cyO cyL ad had cs q49.2 y12 0 q49.1 e50 _) (cwV 2 hts (gV ml_L_87 im_X7_wrap se_X7_wrap in_X7 co_X7_wrap) rfl rfl rfl (by decide +kernel) ⟨Nat.le_of_ble_eq_true rfl, Nat.le_of_ble_eq_true rfl⟩) (cP_VG hK hP hD List.perm_append_comm 0 rfl rfl) rfl rfl hl.1 rfl (lv_room (Nat.le_of_ble_eq_true rfl)) dL_same_767 ⟨Nat.zero_le _, Nat.zero_le _⟩) hP hD hS hA List.perm_append_comm List.perm_append_comm mainC_ads (fun H locs hP hD hS => ?_)
    refine lv_iload hx hb dL_same_770 (lv_at hl 2 rfl) ?_
    refine fr_ir (M := ([] : va_W)) (va_runS (As := [.int (wrv y12.toNatClampNeg)]) (rest := [.int q49.1]) ⟨hx, hb, hml, hown, hts⟩ (mL_key l dC dI cyI cyO cyL (wrv y12.toNatClampNeg) _ (fL_key (wrv y12.toNatClampNeg)) rfl) (va_cwS 1 hts (gS ml_L_21 st_L_key in_L co_L_key) rfl rfl rfl (by decide +kernel) ⟨Nat.le_of_ble_eq_true rfl, Nat.le_of_ble_eq_true rfl⟩) (cP_S hK hP hD [] rfl rfl) rfl rfl hl.1 rfl (lv_room (Nat.le_of_ble_eq_true rfl)) dL_same_772 ⟨Nat.zero_le _, Nat.zero_le _⟩) hP hD hS hA [] rfl (fun H locs hP hS => ?_)
    refine lv_bipush (v := 7) hx hb dL_same_775 (by decide) ?_
    refine lv_icmp_ne (tgt := 785) hx hb dL_same_777 (by decide) (fun c51 => ?_) (fun c51 => ?_)
    · have h := (if_neg c51).symm.trans h
      refine lv_iload hx hb dL_same_785 (lv_at hl 2 rfl) ?_
      refine fr_ir (M := ([] : va_W)) (va_runS (As := [.int (wrv y12.toNatClampNeg)]) (rest := [.int q49.1]) ⟨hx, hb, hml, hown, hts⟩ (mL_key l dC dI cyI cyO cyL (wrv y12.toNatClampNeg) _ (fL_key (wrv y12.toNatClampNeg)) rfl) (va_cwS 1 hts (gS ml_L_21 st_L_key in_L co_L_key) rfl rfl rfl (by decide +kernel) ⟨Nat.le_of_ble_eq_true rfl, Nat.le_of_ble_eq_true rfl⟩) (cP_S hK hP hD [] rfl rfl) rfl rfl hl.1 rfl (lv_room (Nat.le_of_ble_eq_true rfl)) dL_same_787 ⟨Nat.zero_le _, Nat.zero_le _⟩) hP hD hS hA [] rfl (fun H locs hP hS => ?_)
      exact kB790 k708 hk708 qv kev bov wrv opv q49.2 y7 y8 (y9 + (((wrv y12.toNatClampNeg) >>> ((18 : Int32) &&& 31)) &&& 1)) (y10 + (((((wrv y12.toNatClampNeg) >>> ((19 : Int32) &&& 31)) &&& 1) + (((wrv y12.toNatClampNeg) >>> ((20 : Int32) &&& 31)) &&& 1)) + (((wrv y12.toNatClampNeg) >>> ((21 : Int32) &&& 31)) &&& 1))) y11 y12 (wrv y12.toNatClampNeg) q49.1 (fL_key (wrv y12.toNatClampNeg)) h _ _ hP hD hS ls (lv_sub hl [3, 4, 5, 6, 7, 1, 0, 8, 9, 2] rfl)
    · have h := (if_pos c51).symm.trans h
      refine lv_bipush (v := (-6)) hx hb dL_same_780 (by decide) ?_
      refine lv_goto (tgt := 790) hx hb dL_same_782 (by decide) ?_
      exact kB790 k708 hk708 qv kev bov wrv opv q49.2 y7 y8 (y9 + (((wrv y12.toNatClampNeg) >>> ((18 : Int32) &&& 31)) &&& 1)) (y10 + (((((wrv y12.toNatClampNeg) >>> ((19 : Int32) &&& 31)) &&& 1) + (((wrv y12.toNatClampNeg) >>> ((20 : Int32) &&& 31)) &&& 1)) + (((wrv y12.toNatClampNeg) >>> ((21 : Int32) &&& 31)) &&& 1))) y11 y12 (wrv y12.toNatClampNeg) q49.1 (-6) h _ _ hP hD hS ls (lv_sub hl [3, 4, 5, 6, 7, 1, 0, 8, 9, 2] rfl)
  have kB708 : ∀ (fuel : Nat) (qv : Nat → Int32) (kev : Nat → Int32) (bov : Nat → Int32) (wrv : Nat → Int32) (opv : Nat → Int64) (cs : CS) (y7 : Int32) (y8 : Int32) (y9 : Int32) (y10 : Int32) (y11 : Int32) (y12 : Int32), fL_same_b708 fuel qv kev bov wrv opv cs y7 y8 y9 y10 y11 y12 = some res → ∀ (H : Heap) (locs : List Loc), va_P (dC, dI) vwCl (((arrW cyI aq 4 qv) ++ (arrW cyI ak 24 kev) ++ (arrW cyI ab 12 bov) ++ (arrW cyI aw 64 wrv) ++ (larrW cyL ao 2 opv)) ++ mainC cyI cyO cyL ad had cs) H → va_D A (((arrW cyI aq 4 qv) ++ (arrW cyI ak 24 kev) ++ (arrW cyI ab 12 bov) ++ (arrW cyI aw 64 wrv) ++ (larrW cyL ao 2 opv)) ++ mainC cyI cyO cyL ad had cs) → va_S A s.heap H locs → ∀ ls : Array Slot, lv_has ls 17 [(0, .ref (ad 0)), (2, .ref aq), (5, .ref aw), (7, .int y7), (8, .int y8), (9, .int y9), (10, .int y10), (11, .int y11), (12, .int y12)] → W p l e (headSpec (wsG yL_same cL_same 17 (some .boolean)) ({ frames := 7, cells := 0, slots := 0, locals := 162 })).room s m (([.ref (ad 0), .int x1, .ref aq, .ref ak, .ref ab, .ref aw, .ref ao] : List Value).toArray) below meth c H locs 0 0 (MQ below (cI dC dI res.1 (((arrW cyI aq 4 qv) ++ (arrW cyI ak 24 kev) ++ (arrW cyI ab 12 bov) ++ (arrW cyI aw 64 wrv) ++ (larrW cyL ao 2 res.2.1)) ++ mainC cyI cyO cyL ad had res.2.2) A) ([.ref (ad 0), .int x1, .ref aq, .ref ak, .ref ab, .ref aw, .ref ao] : List Value).toArray s 0 0 A) (F0 m 708 ls []) := by
    intro fuel
    induction fuel with
    | zero => intro qv kev bov wrv opv cs y7 y8 y9 y10 y11 y12 h; rw [fL_same_b708] at h; cases h
    | succ fuel ih =>
      intro qv kev bov wrv opv cs y7 y8 y9 y10 y11 y12 h H locs hP hD hS ls hl
      rw [fL_same_b708] at h
      refine lv_iload hx hb dL_same_708 (lv_at hl 8 rfl) ?_
      refine lv_aload_n hx hb dL_same_710 rfl (lv_at hl 1 rfl) ?_
      refine lv_iconst (v := 3) hx hb dL_same_711 (by decide) ?_
      obtain ⟨ni52, h⟩ := ifn h
      refine va_iald hx hb hK.1 hP 0 0 rfl rfl ni52 dL_same_712 ?_
      refine lv_icmp_ge (tgt := 881) hx hb dL_same_713 (by decide) (fun c53 => ?_) (fun c53 => ?_)
      · have h := (if_pos c53).symm.trans h
        exact kB881 qv kev bov wrv opv cs y7 y8 y9 y10 y11 h _ _ hP hD hS ls (lv_sub hl [0, 1, 3, 4, 5, 6, 7] rfl)
      · have h := (if_neg c53).symm.trans h
        exact kB716 (fL_same_b708 fuel) ih qv kev bov wrv opv cs y7 y8 y9 y10 y11 y12 h _ _ hP hD hS ls (lv_sub hl [0, 1, 2, 3, 4, 5, 6, 7, 8] rfl)
  have kB705 : ∀ (qv : Nat → Int32) (kev : Nat → Int32) (bov : Nat → Int32) (wrv : Nat → Int32) (opv : Nat → Int64) (cs : CS) (y7 : Int32) (y8 : Int32) (y9 : Int32) (y10 : Int32) (y11 : Int32), fL_same_b705 qv kev bov wrv opv cs y7 y8 y9 y10 y11 = some res → ∀ (H : Heap) (locs : List Loc), va_P (dC, dI) vwCl (((arrW cyI aq 4 qv) ++ (arrW cyI ak 24 kev) ++ (arrW cyI ab 12 bov) ++ (arrW cyI aw 64 wrv) ++ (larrW cyL ao 2 opv)) ++ mainC cyI cyO cyL ad had cs) H → va_D A (((arrW cyI aq 4 qv) ++ (arrW cyI ak 24 kev) ++ (arrW cyI ab 12 bov) ++ (arrW cyI aw 64 wrv) ++ (larrW cyL ao 2 opv)) ++ mainC cyI cyO cyL ad had cs) → va_S A s.heap H locs → ∀ ls : Array Slot, lv_has ls 17 [(0, .ref (ad 0)), (2, .ref aq), (5, .ref aw), (7, .int y7), (8, .int y8), (9, .int y9), (10, .int y10), (11, .int y11)] → W p l e (headSpec (wsG yL_same cL_same 17 (some .boolean)) ({ frames := 7, cells := 0, slots := 0, locals := 162 })).room s m (([.ref (ad 0), .int x1, .ref aq, .ref ak, .ref ab, .ref aw, .ref ao] : List Value).toArray) below meth c H locs 0 0 (MQ below (cI dC dI res.1 (((arrW cyI aq 4 qv) ++ (arrW cyI ak 24 kev) ++ (arrW cyI ab 12 bov) ++ (arrW cyI aw 64 wrv) ++ (larrW cyL ao 2 res.2.1)) ++ mainC cyI cyO cyL ad had res.2.2) A) ([.ref (ad 0), .int x1, .ref aq, .ref ak, .ref ab, .ref aw, .ref ao] : List Value).toArray s 0 0 A) (F0 m 705 ls []) := by
    intro qv kev bov wrv opv cs y7 y8 y9 y10 y11 h H locs hP hD hS ls hl
    unfold fL_same_b705 at h
    refine lv_iconst (v := 0) hx hb dL_same_705 (by decide) ?_
    refine lv_istore (lv' := [(12, .int 0), (0, .ref (ad 0)), (2, .ref aq), (5, .ref aw), (7, .int y7), (8, .int y8), (9, .int y9), (10, .int y10), (11, .int y11)]) hx hb dL_same_706 hl (by decide) rfl (fun ls hl => ?_)
    exact kB708 6000 qv kev bov wrv opv cs y7 y8 y9 y10 y11 0 h _ _ hP hD hS ls (lv_sub hl [1, 2, 3, 4, 5, 6, 7, 8, 0] rfl)
  have kB639 : ∀ (fuel : Nat) (qv : Nat → Int32) (kev : Nat → Int32) (bov : Nat → Int32) (wrv : Nat → Int32) (opv : Nat → Int64) (cs : CS) (y7 : Int32) (y8 : Int32) (y9 : Int32) (y10 : Int32) (y11 : Int32) (y12 : Int32), fL_same_b639 fuel qv kev bov wrv opv cs y7 y8 y9 y10 y11 y12 = some res → ∀ (H : Heap) (locs : List Loc), va_P (dC, dI) vwCl (((arrW cyI aq 4 qv) ++ (arrW cyI ak 24 kev) ++ (arrW cyI ab 12 bov) ++ (arrW cyI aw 64 wrv) ++ (larrW cyL ao 2 opv)) ++ mainC cyI cyO cyL ad had cs) H → va_D A (((arrW cyI aq 4 qv) ++ (arrW cyI ak 24 kev) ++ (arrW cyI ab 12 bov) ++ (arrW cyI aw 64 wrv) ++ (larrW cyL ao 2 opv)) ++ mainC cyI cyO cyL ad had cs) → va_S A s.heap H locs → ∀ ls : Array Slot, lv_has ls 17 [(0, .ref (ad 0)), (2, .ref aq), (4, .ref ab), (5, .ref aw), (7, .int y7), (8, .int y8), (9, .int y9), (10, .int y10), (11, .int y11), (12, .int y12)] → W p l e (headSpec (wsG yL_same cL_same 17 (some .boolean)) ({ frames := 7, cells := 0, slots := 0, locals := 162 })).room s m (([.ref (ad 0), .int x1, .ref aq, .ref ak, .ref ab, .ref aw, .ref ao] : List Value).toArray) below meth c H locs 0 0 (MQ below (cI dC dI res.1 (((arrW cyI aq 4 qv) ++ (arrW cyI ak 24 kev) ++ (arrW cyI ab 12 bov) ++ (arrW cyI aw 64 wrv) ++ (larrW cyL ao 2 res.2.1)) ++ mainC cyI cyO cyL ad had res.2.2) A) ([.ref (ad 0), .int x1, .ref aq, .ref ak, .ref ab, .ref aw, .ref ao] : List Value).toArray s 0 0 A) (F0 m 639 ls []) := by
    intro fuel
    induction fuel with
    | zero => intro qv kev bov wrv opv cs y7 y8 y9 y10 y11 y12 h; rw [fL_same_b639] at h; cases h
    | succ fuel ih =>
      intro qv kev bov wrv opv cs y7 y8 y9 y10 y11 y12 h H locs hP hD hS ls hl
      rw [fL_same_b639] at h
      refine lv_iload hx hb dL_same_639 (lv_at hl 9 rfl) ?_
      refine lv_aload_n hx hb dL_same_641 rfl (lv_at hl 1 rfl) ?_
      refine lv_iconst (v := 2) hx hb dL_same_642 (by decide) ?_
      obtain ⟨ni54, h⟩ := ifn h
      refine va_iald hx hb hK.1 hP 0 0 rfl rfl ni54 dL_same_643 ?_
      refine lv_icmp_ge (tgt := 705) hx hb dL_same_644 (by decide) (fun c55 => ?_) (fun c55 => ?_)
      · have h := (if_pos c55).symm.trans h
        exact kB705 qv kev bov wrv opv cs y7 y8 y9 y10 y11 h _ _ hP hD hS ls (lv_sub hl [0, 1, 3, 4, 5, 6, 7, 8] rfl)
      · have h := (if_neg c55).symm.trans h
        refine lv_aload_n hx hb dL_same_647 rfl (lv_at hl 0 rfl) ?_
        refine lv_iload hx hb dL_same_648 (lv_at hl 9 rfl) ?_
        refine lv_iconst (v := 0) hx hb dL_same_650 (by decide) ?_
        obtain ⟨q56, e57, h⟩ := ob h
        refine fr_iG (M := mainC cyI cyO cyL ad had cs) (M' := mainC cyI cyO cyL ad had q56.2) (L' := (((arrW cyI aq 4 qv) ++ (arrW cyI ak 24 kev) ++ (arrW cyI ab 12 bov) ++ (arrW cyI aw 64 wrv) ++ (larrW cyL ao 2 opv)) ++ mainC cyI cyO cyL ad had q56.2)) (F := ((arrW cyI aq 4 qv) ++ (arrW cyI ak 24 kev) ++ (arrW cyI ab 12 bov) ++ (arrW cyI aw 64 wrv) ++ (larrW cyL ao 2 opv))) (va_runV (As := [.int y12, .int 0]) (rest := []) ⟨hx, hb, hml, hown, hts⟩ (uX7_ofBox l dC dI cyI cyO cyL ad had cs q56.2 y12 0 q56.1 e57 _) (cwV 2 hts (gV ml_L_84 im_X7_ofBox se_X7_ofBox in_X7 co_X7_ofBox) rfl rfl rfl (by decide +kernel) ⟨Nat.le_of_ble_eq_true rfl, Nat.le_of_ble_eq_true rfl⟩) (cP_VG hK hP hD List.perm_append_comm 0 rfl rfl) rfl rfl hl.1 rfl (lv_room (Nat.le_of_ble_eq_true rfl)) dL_same_651 ⟨Nat.zero_le _, Nat.zero_le _⟩) hP hD hS hA List.perm_append_comm List.perm_append_comm mainC_ads (fun H locs hP hD hS => ?_)
        refine lv_aload hx hb dL_same_654 (lv_at hl 2 rfl) ?_
        refine lv_iconst (v := 2) hx hb dL_same_656 (by decide) ?_
        refine lv_iload hx hb dL_same_657 (lv_at hl 9 rfl) ?_
        refine lv_imul hx hb dL_same_659 ?_
        obtain ⟨ni58, h⟩ := ifn h
        refine va_iald hx hb hK.1 hP 2 0 rfl rfl ni58 dL_same_660 ?_
        refine lv_icmp_ne (tgt := 683) hx hb dL_same_661 (by decide) (fun c59 => ?_) (fun c59 => ?_)
        · have h := (if_neg c59).symm.trans h
          refine lv_iconst (v := 0) hx hb dL_same_683 (by decide) ?_
          obtain rfl := Option.some.inj h
          exact e_z (v := 0) hx hb hr hlocks rfl hP hS dL_same_684
        · have h := (if_pos c59).symm.trans h
          refine lv_aload_n hx hb dL_same_664 rfl (lv_at hl 0 rfl) ?_
          refine lv_iload hx hb dL_same_665 (lv_at hl 9 rfl) ?_
          refine lv_iconst (v := 1) hx hb dL_same_667 (by decide) ?_
          obtain ⟨q60, e61, h⟩ := ob h
          refine fr_iG (M := mainC cyI cyO cyL ad had q56.2) (M' := mainC cyI cyO cyL ad had q60.2) (L' := (((arrW cyI aq 4 qv) ++ (arrW cyI ak 24 kev) ++ (arrW cyI ab 12 bov) ++ (arrW cyI aw 64 wrv) ++ (larrW cyL ao 2 opv)) ++ mainC cyI cyO cyL ad had q60.2)) (F := ((arrW cyI aq 4 qv) ++ (arrW cyI ak 24 kev) ++ (arrW cyI ab 12 bov) ++ (arrW cyI aw 64 wrv) ++ (larrW cyL ao 2 opv))) (va_runV (As := [.int y12, .int 1]) (rest := []) ⟨hx, hb, hml, hown, hts⟩ (uX7_ofBox l dC dI cyI cyO cyL ad had q56.2 q60.2 y12 1 q60.1 e61 _) (cwV 2 hts (gV ml_L_84 im_X7_ofBox se_X7_ofBox in_X7 co_X7_ofBox) rfl rfl rfl (by decide +kernel) ⟨Nat.le_of_ble_eq_true rfl, Nat.le_of_ble_eq_true rfl⟩) (cP_VG hK hP hD List.perm_append_comm 0 rfl rfl) rfl rfl hl.1 rfl (lv_room (Nat.le_of_ble_eq_true rfl)) dL_same_668 ⟨Nat.zero_le _, Nat.zero_le _⟩) hP hD hS hA List.perm_append_comm List.perm_append_comm mainC_ads (fun H locs hP hD hS => ?_)
          refine lv_aload hx hb dL_same_671 (lv_at hl 2 rfl) ?_
          refine lv_iconst (v := 2) hx hb dL_same_673 (by decide) ?_
          refine lv_iload hx hb dL_same_674 (lv_at hl 9 rfl) ?_
          refine lv_imul hx hb dL_same_676 ?_
          refine lv_iconst (v := 1) hx hb dL_same_677 (by decide) ?_
          refine lv_iadd hx hb dL_same_678 ?_
          obtain ⟨ni62, h⟩ := ifn h
          refine va_iald hx hb hK.1 hP 2 0 rfl rfl ni62 dL_same_679 ?_
          refine lv_icmp_eq (tgt := 685) hx hb dL_same_680 (by decide) (fun c63 => ?_) (fun c63 => ?_)
          · have h := (if_pos c63).symm.trans h
            refine lv_iload hx hb dL_same_685 (lv_at hl 8 rfl) ?_
            refine lv_aload hx hb dL_same_687 (lv_at hl 2 rfl) ?_
            refine lv_iconst (v := 2) hx hb dL_same_689 (by decide) ?_
            refine lv_iload hx hb dL_same_690 (lv_at hl 9 rfl) ?_
            refine lv_imul hx hb dL_same_692 ?_
            refine lv_iconst (v := 1) hx hb dL_same_693 (by decide) ?_
            refine lv_iadd hx hb dL_same_694 ?_
            obtain ⟨ni64, h⟩ := ifn h
            refine va_iald hx hb hK.1 hP 2 0 rfl rfl ni64 dL_same_695 ?_
            refine lv_iadd hx hb dL_same_696 ?_
            refine lv_istore (lv' := [(11, .int (y11 + (bov ((2 * y12) + 1).toNatClampNeg))), (0, .ref (ad 0)), (2, .ref aq), (4, .ref ab), (5, .ref aw), (7, .int y7), (8, .int y8), (9, .int y9), (10, .int y10), (12, .int y12)]) hx hb dL_same_697 hl (by decide) rfl (fun ls hl => ?_)
            refine lv_iinc (v := (y12 + 1)) (lv' := [(12, .int (y12 + 1)), (11, .int (y11 + (bov ((2 * y12) + 1).toNatClampNeg))), (0, .ref (ad 0)), (2, .ref aq), (4, .ref ab), (5, .ref aw), (7, .int y7), (8, .int y8), (9, .int y9), (10, .int y10)]) hx hb dL_same_699 hl (k := 9) rfl rfl (by decide) rfl (fun ls hl => ?_)
            refine lv_goto (tgt := 639) hx hb dL_same_702 (by decide) ?_
            exact ih qv kev bov wrv opv q60.2 y7 y8 y9 y10 (y11 + (bov ((2 * y12) + 1).toNatClampNeg)) (y12 + 1) h _ _ hP hD hS ls (lv_sub hl [2, 3, 4, 5, 6, 7, 8, 9, 1, 0] rfl)
          · have h := (if_neg c63).symm.trans h
            refine lv_iconst (v := 0) hx hb dL_same_683 (by decide) ?_
            obtain rfl := Option.some.inj h
            exact e_z (v := 0) hx hb hr hlocks rfl hP hS dL_same_684
  have kB633 : ∀ (qv : Nat → Int32) (kev : Nat → Int32) (bov : Nat → Int32) (wrv : Nat → Int32) (opv : Nat → Int64) (cs : CS) (y7 : Int32) (y8 : Int32) (y9 : Int32) (y10 : Int32), fL_same_b633 qv kev bov wrv opv cs y7 y8 y9 y10 = some res → ∀ (H : Heap) (locs : List Loc), va_P (dC, dI) vwCl (((arrW cyI aq 4 qv) ++ (arrW cyI ak 24 kev) ++ (arrW cyI ab 12 bov) ++ (arrW cyI aw 64 wrv) ++ (larrW cyL ao 2 opv)) ++ mainC cyI cyO cyL ad had cs) H → va_D A (((arrW cyI aq 4 qv) ++ (arrW cyI ak 24 kev) ++ (arrW cyI ab 12 bov) ++ (arrW cyI aw 64 wrv) ++ (larrW cyL ao 2 opv)) ++ mainC cyI cyO cyL ad had cs) → va_S A s.heap H locs → ∀ ls : Array Slot, lv_has ls 17 [(0, .ref (ad 0)), (2, .ref aq), (4, .ref ab), (5, .ref aw), (7, .int y7), (8, .int y8), (9, .int y9), (10, .int y10)] → W p l e (headSpec (wsG yL_same cL_same 17 (some .boolean)) ({ frames := 7, cells := 0, slots := 0, locals := 162 })).room s m (([.ref (ad 0), .int x1, .ref aq, .ref ak, .ref ab, .ref aw, .ref ao] : List Value).toArray) below meth c H locs 0 0 (MQ below (cI dC dI res.1 (((arrW cyI aq 4 qv) ++ (arrW cyI ak 24 kev) ++ (arrW cyI ab 12 bov) ++ (arrW cyI aw 64 wrv) ++ (larrW cyL ao 2 res.2.1)) ++ mainC cyI cyO cyL ad had res.2.2) A) ([.ref (ad 0), .int x1, .ref aq, .ref ak, .ref ab, .ref aw, .ref ao] : List Value).toArray s 0 0 A) (F0 m 633 ls []) := by
    intro qv kev bov wrv opv cs y7 y8 y9 y10 h H locs hP hD hS ls hl
    unfold fL_same_b633 at h
    refine lv_iconst (v := 0) hx hb dL_same_633 (by decide) ?_
    refine lv_istore (lv' := [(11, .int 0), (0, .ref (ad 0)), (2, .ref aq), (4, .ref ab), (5, .ref aw), (7, .int y7), (8, .int y8), (9, .int y9), (10, .int y10)]) hx hb dL_same_634 hl (by decide) rfl (fun ls hl => ?_)
    refine lv_iconst (v := 0) hx hb dL_same_636 (by decide) ?_
    refine lv_istore (lv' := [(12, .int 0), (11, .int 0), (0, .ref (ad 0)), (2, .ref aq), (4, .ref ab), (5, .ref aw), (7, .int y7), (8, .int y8), (9, .int y9), (10, .int y10)]) hx hb dL_same_637 hl (by decide) rfl (fun ls hl => ?_)
    exact kB639 6000 qv kev bov wrv opv cs y7 y8 y9 y10 0 0 h _ _ hP hD hS ls (lv_sub hl [2, 3, 4, 5, 6, 7, 8, 9, 1, 0] rfl)
  have kB600 : ∀ (k533 : (Nat → Int32) → (Nat → Int32) → (Nat → Int32) → (Nat → Int32) → (Nat → Int64) → CS → Int32 → Int32 → Int32 → Int32 → Int32 → Int32 → Option (Int32 × (Nat → Int64) × (CS))) (hk533 : ∀ (qv : Nat → Int32) (kev : Nat → Int32) (bov : Nat → Int32) (wrv : Nat → Int32) (opv : Nat → Int64) (cs : CS) (y1 : Int32) (y7 : Int32) (y8 : Int32) (y9 : Int32) (y10 : Int32) (y11 : Int32), k533 qv kev bov wrv opv cs y1 y7 y8 y9 y10 y11 = some res → ∀ (H : Heap) (locs : List Loc), va_P (dC, dI) vwCl (((arrW cyI aq 4 qv) ++ (arrW cyI ak 24 kev) ++ (arrW cyI ab 12 bov) ++ (arrW cyI aw 64 wrv) ++ (larrW cyL ao 2 opv)) ++ mainC cyI cyO cyL ad had cs) H → va_D A (((arrW cyI aq 4 qv) ++ (arrW cyI ak 24 kev) ++ (arrW cyI ab 12 bov) ++ (arrW cyI aw 64 wrv) ++ (larrW cyL ao 2 opv)) ++ mainC cyI cyO cyL ad had cs) → va_S A s.heap H locs → ∀ ls : Array Slot, lv_has ls 17 [(0, .ref (ad 0)), (1, .int y1), (2, .ref aq), (3, .ref ak), (4, .ref ab), (5, .ref aw), (6, .ref ao), (7, .int y7), (8, .int y8), (9, .int y9), (10, .int y10), (11, .int y11)] → W p l e (headSpec (wsG yL_same cL_same 17 (some .boolean)) ({ frames := 7, cells := 0, slots := 0, locals := 162 })).room s m (([.ref (ad 0), .int x1, .ref aq, .ref ak, .ref ab, .ref aw, .ref ao] : List Value).toArray) below meth c H locs 0 0 (MQ below (cI dC dI res.1 (((arrW cyI aq 4 qv) ++ (arrW cyI ak 24 kev) ++ (arrW cyI ab 12 bov) ++ (arrW cyI aw 64 wrv) ++ (larrW cyL ao 2 res.2.1)) ++ mainC cyI cyO cyL ad had res.2.2) A) ([.ref (ad 0), .int x1, .ref aq, .ref ak, .ref ab, .ref aw, .ref ao] : List Value).toArray s 0 0 A) (F0 m 533 ls [])) (qv : Nat → Int32) (kev : Nat → Int32) (bov : Nat → Int32) (wrv : Nat → Int32) (opv : Nat → Int64) (cs : CS) (y1 : Int32) (y7 : Int32) (y8 : Int32) (y9 : Int32) (y10 : Int32) (y11 : Int32) (y12 : Int32), fL_same_b600 k533 qv kev bov wrv opv cs y1 y7 y8 y9 y10 y11 y12 = some res → ∀ (H : Heap) (locs : List Loc), va_P (dC, dI) vwCl (((arrW cyI aq 4 qv) ++ (arrW cyI ak 24 kev) ++ (arrW cyI ab 12 bov) ++ (arrW cyI aw 64 wrv) ++ (larrW cyL ao 2 opv)) ++ mainC cyI cyO cyL ad had cs) H → va_D A (((arrW cyI aq 4 qv) ++ (arrW cyI ak 24 kev) ++ (arrW cyI ab 12 bov) ++ (arrW cyI aw 64 wrv) ++ (larrW cyL ao 2 opv)) ++ mainC cyI cyO cyL ad had cs) → va_S A s.heap H locs → ∀ ls : Array Slot, lv_has ls 17 [(0, .ref (ad 0)), (1, .int y1), (2, .ref aq), (3, .ref ak), (4, .ref ab), (5, .ref aw), (6, .ref ao), (7, .int y7), (8, .int y8), (9, .int y9), (10, .int y10), (11, .int y11), (12, .int y12)] → W p l e (headSpec (wsG yL_same cL_same 17 (some .boolean)) ({ frames := 7, cells := 0, slots := 0, locals := 162 })).room s m (([.ref (ad 0), .int x1, .ref aq, .ref ak, .ref ab, .ref aw, .ref ao] : List Value).toArray) below meth c H locs 0 0 (MQ below (cI dC dI res.1 (((arrW cyI aq 4 qv) ++ (arrW cyI ak 24 kev) ++ (arrW cyI ab 12 bov) ++ (arrW cyI aw 64 wrv) ++ (larrW cyL ao 2 res.2.1)) ++ mainC cyI cyO cyL ad had res.2.2) A) ([.ref (ad 0), .int x1, .ref aq, .ref ak, .ref ab, .ref aw, .ref ao] : List Value).toArray s 0 0 A) (F0 m 600 ls []) := by
    intro k533 hk533 qv kev bov wrv opv cs y1 y7 y8 y9 y10 y11 y12 h H locs hP hD hS ls hl
    unfold fL_same_b600 at h
    refine lv_iload hx hb dL_same_600 (lv_at hl 11 rfl) ?_
    refine lv_if_ne (tgt := 618) hx hb dL_same_602 (by decide) (fun c65 => ?_) (fun c65 => ?_)
    · have h := (if_neg c65).symm.trans h
      refine lv_iload hx hb dL_same_618 (lv_at hl 11 rfl) ?_
      refine lv_iconst (v := 1) hx hb dL_same_620 (by decide) ?_
      refine lv_iload_n hx hb dL_same_621 rfl (lv_at hl 1 rfl) ?_
      refine lv_iconst (v := 3) hx hb dL_same_622 (by decide) ?_
      obtain ⟨q66, e67, h⟩ := ob h
      refine fr_ir (M := ([] : va_W)) (va_runS (As := [.int y1, .int 3]) (rest := [.int 1, .int y11]) ⟨hx, hb, hml, hown, hts⟩ (mL_low l dC dI cyI cyO cyL y1 3 _ q66 e67) (va_cwS 2 hts (gS ml_L_60 st_L_low in_L co_L_low) rfl rfl rfl (by decide +kernel) ⟨Nat.le_of_ble_eq_true rfl, Nat.le_of_ble_eq_true rfl⟩) (cP_S hK hP hD [] rfl rfl) rfl rfl hl.1 rfl (lv_room (Nat.le_of_ble_eq_true rfl)) dL_same_623 ⟨Nat.zero_le _, Nat.zero_le _⟩) hP hD hS hA [] rfl (fun H locs hP hS => ?_)
      refine lv_iadd hx hb dL_same_626 ?_
      refine lv_iadd hx hb dL_same_627 ?_
      refine lv_istore (lv' := [(11, .int (y11 + (1 + q66))), (0, .ref (ad 0)), (1, .int y1), (2, .ref aq), (3, .ref ak), (4, .ref ab), (5, .ref aw), (6, .ref ao), (7, .int y7), (8, .int y8), (9, .int y9), (10, .int y10), (12, .int y12)]) hx hb dL_same_628 hl (by decide) rfl (fun ls hl => ?_)
      refine lv_goto (tgt := 533) hx hb dL_same_630 (by decide) ?_
      exact hk533 qv kev bov wrv opv cs y1 y7 y8 y9 y10 (y11 + (1 + q66)) h _ _ hP hD hS ls (lv_sub hl [1, 2, 3, 4, 5, 6, 7, 8, 9, 10, 11, 0] rfl)
    · have h := (if_pos c65).symm.trans h
      refine lv_aload_n hx hb dL_same_605 rfl (lv_at hl 0 rfl) ?_
      refine lv_bipush (v := 9) hx hb dL_same_606 (by decide) ?_
      obtain ⟨q68, e69, h⟩ := ob h
      refine fr_iG (M := mainC cyI cyO cyL ad had cs) (M' := mainC cyI cyO cyL ad had q68.2) (L' := (((arrW cyI aq 4 qv) ++ (arrW cyI ak 24 kev) ++ (arrW cyI ab 12 bov) ++ (arrW cyI aw 64 wrv) ++ (larrW cyL ao 2 opv)) ++ mainC cyI cyO cyL ad had q68.2)) (F := ((arrW cyI aq 4 qv) ++ (arrW cyI ak 24 kev) ++ (arrW cyI ab 12 bov) ++ (arrW cyI aw 64 wrv) ++ (larrW cyL ao 2 opv))) (va_runV (As := [.int 9]) (rest := []) ⟨hx, hb, hml, hown, hts⟩ (uX7_count l dC dI cyI cyO cyL ad had cs q68.2 9 q68.1 e69 _) (cwV 1 hts (gV ml_L_81 im_X7_count se_X7_count in_X7 co_X7_count) rfl rfl rfl (by decide +kernel) ⟨Nat.le_of_ble_eq_true rfl, Nat.le_of_ble_eq_true rfl⟩) (cP_VG hK hP hD List.perm_append_comm 0 rfl rfl) rfl rfl hl.1 rfl (lv_room (Nat.le_of_ble_eq_true rfl)) dL_same_608 ⟨Nat.zero_le _, Nat.zero_le _⟩) hP hD hS hA List.perm_append_comm List.perm_append_comm mainC_ads (fun H locs hP hD hS => ?_)
      refine lv_iload hx hb dL_same_611 (lv_at hl 12 rfl) ?_
      refine lv_icmp_eq (tgt := 618) hx hb dL_same_613 (by decide) (fun c70 => ?_) (fun c70 => ?_)
      · have h := (if_pos c70).symm.trans h
        refine lv_iload hx hb dL_same_618 (lv_at hl 11 rfl) ?_
        refine lv_iconst (v := 1) hx hb dL_same_620 (by decide) ?_
        refine lv_iload_n hx hb dL_same_621 rfl (lv_at hl 1 rfl) ?_
        refine lv_iconst (v := 3) hx hb dL_same_622 (by decide) ?_
        obtain ⟨q71, e72, h⟩ := ob h
        refine fr_ir (M := ([] : va_W)) (va_runS (As := [.int y1, .int 3]) (rest := [.int 1, .int y11]) ⟨hx, hb, hml, hown, hts⟩ (mL_low l dC dI cyI cyO cyL y1 3 _ q71 e72) (va_cwS 2 hts (gS ml_L_60 st_L_low in_L co_L_low) rfl rfl rfl (by decide +kernel) ⟨Nat.le_of_ble_eq_true rfl, Nat.le_of_ble_eq_true rfl⟩) (cP_S hK hP hD [] rfl rfl) rfl rfl hl.1 rfl (lv_room (Nat.le_of_ble_eq_true rfl)) dL_same_623 ⟨Nat.zero_le _, Nat.zero_le _⟩) hP hD hS hA [] rfl (fun H locs hP hS => ?_)
        refine lv_iadd hx hb dL_same_626 ?_
        refine lv_iadd hx hb dL_same_627 ?_
        refine lv_istore (lv' := [(11, .int (y11 + (1 + q71))), (0, .ref (ad 0)), (1, .int y1), (2, .ref aq), (3, .ref ak), (4, .ref ab), (5, .ref aw), (6, .ref ao), (7, .int y7), (8, .int y8), (9, .int y9), (10, .int y10), (12, .int y12)]) hx hb dL_same_628 hl (by decide) rfl (fun ls hl => ?_)
        refine lv_goto (tgt := 533) hx hb dL_same_630 (by decide) ?_
        exact hk533 qv kev bov wrv opv q68.2 y1 y7 y8 y9 y10 (y11 + (1 + q71)) h _ _ hP hD hS ls (lv_sub hl [1, 2, 3, 4, 5, 6, 7, 8, 9, 10, 11, 0] rfl)
      · have h := (if_neg c70).symm.trans h
        refine lv_iconst (v := 0) hx hb dL_same_616 (by decide) ?_
        obtain rfl := Option.some.inj h
        exact e_z (v := 0) hx hb hr hlocks rfl hP hS dL_same_617
  have kB566 : ∀ (k533 : (Nat → Int32) → (Nat → Int32) → (Nat → Int32) → (Nat → Int32) → (Nat → Int64) → CS → Int32 → Int32 → Int32 → Int32 → Int32 → Int32 → Option (Int32 × (Nat → Int64) × (CS))) (hk533 : ∀ (qv : Nat → Int32) (kev : Nat → Int32) (bov : Nat → Int32) (wrv : Nat → Int32) (opv : Nat → Int64) (cs : CS) (y1 : Int32) (y7 : Int32) (y8 : Int32) (y9 : Int32) (y10 : Int32) (y11 : Int32), k533 qv kev bov wrv opv cs y1 y7 y8 y9 y10 y11 = some res → ∀ (H : Heap) (locs : List Loc), va_P (dC, dI) vwCl (((arrW cyI aq 4 qv) ++ (arrW cyI ak 24 kev) ++ (arrW cyI ab 12 bov) ++ (arrW cyI aw 64 wrv) ++ (larrW cyL ao 2 opv)) ++ mainC cyI cyO cyL ad had cs) H → va_D A (((arrW cyI aq 4 qv) ++ (arrW cyI ak 24 kev) ++ (arrW cyI ab 12 bov) ++ (arrW cyI aw 64 wrv) ++ (larrW cyL ao 2 opv)) ++ mainC cyI cyO cyL ad had cs) → va_S A s.heap H locs → ∀ ls : Array Slot, lv_has ls 17 [(0, .ref (ad 0)), (1, .int y1), (2, .ref aq), (3, .ref ak), (4, .ref ab), (5, .ref aw), (6, .ref ao), (7, .int y7), (8, .int y8), (9, .int y9), (10, .int y10), (11, .int y11)] → W p l e (headSpec (wsG yL_same cL_same 17 (some .boolean)) ({ frames := 7, cells := 0, slots := 0, locals := 162 })).room s m (([.ref (ad 0), .int x1, .ref aq, .ref ak, .ref ab, .ref aw, .ref ao] : List Value).toArray) below meth c H locs 0 0 (MQ below (cI dC dI res.1 (((arrW cyI aq 4 qv) ++ (arrW cyI ak 24 kev) ++ (arrW cyI ab 12 bov) ++ (arrW cyI aw 64 wrv) ++ (larrW cyL ao 2 res.2.1)) ++ mainC cyI cyO cyL ad had res.2.2) A) ([.ref (ad 0), .int x1, .ref aq, .ref ak, .ref ab, .ref aw, .ref ao] : List Value).toArray s 0 0 A) (F0 m 533 ls [])) (fuel : Nat) (qv : Nat → Int32) (kev : Nat → Int32) (bov : Nat → Int32) (wrv : Nat → Int32) (opv : Nat → Int64) (cs : CS) (y1 : Int32) (y7 : Int32) (y8 : Int32) (y9 : Int32) (y10 : Int32) (y11 : Int32) (y12 : Int32) (y13 : Int32), fL_same_b566 k533 fuel qv kev bov wrv opv cs y1 y7 y8 y9 y10 y11 y12 y13 = some res → ∀ (H : Heap) (locs : List Loc), va_P (dC, dI) vwCl (((arrW cyI aq 4 qv) ++ (arrW cyI ak 24 kev) ++ (arrW cyI ab 12 bov) ++ (arrW cyI aw 64 wrv) ++ (larrW cyL ao 2 opv)) ++ mainC cyI cyO cyL ad had cs) H → va_D A (((arrW cyI aq 4 qv) ++ (arrW cyI ak 24 kev) ++ (arrW cyI ab 12 bov) ++ (arrW cyI aw 64 wrv) ++ (larrW cyL ao 2 opv)) ++ mainC cyI cyO cyL ad had cs) → va_S A s.heap H locs → ∀ ls : Array Slot, lv_has ls 17 [(0, .ref (ad 0)), (1, .int y1), (2, .ref aq), (3, .ref ak), (4, .ref ab), (5, .ref aw), (6, .ref ao), (7, .int y7), (8, .int y8), (9, .int y9), (10, .int y10), (11, .int y11), (12, .int y12), (13, .int y13)] → W p l e (headSpec (wsG yL_same cL_same 17 (some .boolean)) ({ frames := 7, cells := 0, slots := 0, locals := 162 })).room s m (([.ref (ad 0), .int x1, .ref aq, .ref ak, .ref ab, .ref aw, .ref ao] : List Value).toArray) below meth c H locs 0 0 (MQ below (cI dC dI res.1 (((arrW cyI aq 4 qv) ++ (arrW cyI ak 24 kev) ++ (arrW cyI ab 12 bov) ++ (arrW cyI aw 64 wrv) ++ (larrW cyL ao 2 res.2.1)) ++ mainC cyI cyO cyL ad had res.2.2) A) ([.ref (ad 0), .int x1, .ref aq, .ref ak, .ref ab, .ref aw, .ref ao] : List Value).toArray s 0 0 A) (F0 m 566 ls []) := by
    intro k533 hk533 fuel
    induction fuel with
    | zero => intro qv kev bov wrv opv cs y1 y7 y8 y9 y10 y11 y12 y13 h; rw [fL_same_b566] at h; cases h
    | succ fuel ih =>
      intro qv kev bov wrv opv cs y1 y7 y8 y9 y10 y11 y12 y13 h H locs hP hD hS ls hl
      rw [fL_same_b566] at h
      refine lv_iload hx hb dL_same_566 (lv_at hl 13 rfl) ?_
      refine lv_aload_n hx hb dL_same_568 rfl (lv_at hl 2 rfl) ?_
      refine lv_iconst (v := 2) hx hb dL_same_569 (by decide) ?_
      obtain ⟨ni73, h⟩ := ifn h
      refine va_iald hx hb hK.1 hP 0 0 rfl rfl ni73 dL_same_570 ?_
      refine lv_icmp_ge (tgt := 600) hx hb dL_same_571 (by decide) (fun c74 => ?_) (fun c74 => ?_)
      · have h := (if_pos c74).symm.trans h
        exact kB600 k533 hk533 qv kev bov wrv opv cs y1 y7 y8 y9 y10 y11 y12 h _ _ hP hD hS ls (lv_sub hl [0, 1, 2, 3, 4, 5, 6, 7, 8, 9, 10, 11, 12] rfl)
      · have h := (if_neg c74).symm.trans h
        refine lv_aload_n hx hb dL_same_574 rfl (lv_at hl 0 rfl) ?_
        refine lv_iload hx hb dL_same_575 (lv_at hl 13 rfl) ?_
        refine lv_iload hx hb dL_same_577 (lv_at hl 11 rfl) ?_
        obtain ⟨q75, e76, h⟩ := ob h
        refine fr_iG (M := mainC cyI cyO cyL ad had cs) (M' := mainC cyI cyO cyL ad had q75.2) (L' := (((arrW cyI aq 4 qv) ++ (arrW cyI ak 24 kev) ++ (arrW cyI ab 12 bov) ++ (arrW cyI aw 64 wrv) ++ (larrW cyL ao 2 opv)) ++ mainC cyI cyO cyL ad had q75.2)) (F := ((arrW cyI aq 4 qv) ++ (arrW cyI ak 24 kev) ++ (arrW cyI ab 12 bov) ++ (arrW cyI aw 64 wrv) ++ (larrW cyL ao 2 opv))) (va_runV (As := [.int y13, .int y11]) (rest := []) ⟨hx, hb, hml, hown, hts⟩ (uX7_canOpen l dC dI cyI cyO cyL ad had cs q75.2 y13 y11 q75.1 e76 _) (cwV 2 hts (gV ml_L_78 im_X7_canOpen se_X7_canOpen in_X7 co_X7_canOpen) rfl rfl rfl (by decide +kernel) ⟨Nat.le_of_ble_eq_true rfl, Nat.le_of_ble_eq_true rfl⟩) (cP_VG hK hP hD List.perm_append_comm 0 rfl rfl) rfl rfl hl.1 rfl (lv_room (Nat.le_of_ble_eq_true rfl)) dL_same_579 ⟨Nat.zero_le _, Nat.zero_le _⟩) hP hD hS hA List.perm_append_comm List.perm_append_comm mainC_ads (fun H locs hP hD hS => ?_)
        refine lv_iload hx hb dL_same_582 (lv_at hl 12 rfl) ?_
        refine lv_iload hx hb dL_same_584 (lv_at hl 13 rfl) ?_
        refine lv_ishr hx hb dL_same_586 ?_
        refine lv_iconst (v := 1) hx hb dL_same_587 (by decide) ?_
        refine lv_iand hx hb dL_same_588 ?_
        refine lv_icmp_eq (tgt := 594) hx hb dL_same_589 (by decide) (fun c77 => ?_) (fun c77 => ?_)
        · have h := (if_pos c77).symm.trans h
          refine lv_iinc (v := (y13 + 1)) (lv' := [(13, .int (y13 + 1)), (0, .ref (ad 0)), (1, .int y1), (2, .ref aq), (3, .ref ak), (4, .ref ab), (5, .ref aw), (6, .ref ao), (7, .int y7), (8, .int y8), (9, .int y9), (10, .int y10), (11, .int y11), (12, .int y12)]) hx hb dL_same_594 hl (k := 13) rfl rfl (by decide) rfl (fun ls hl => ?_)
          refine lv_goto (tgt := 566) hx hb dL_same_597 (by decide) ?_
          exact ih qv kev bov wrv opv q75.2 y1 y7 y8 y9 y10 y11 y12 (y13 + 1) h _ _ hP hD hS ls (lv_sub hl [1, 2, 3, 4, 5, 6, 7, 8, 9, 10, 11, 12, 13, 0] rfl)
        · have h := (if_neg c77).symm.trans h
          refine lv_iconst (v := 0) hx hb dL_same_592 (by decide) ?_
          obtain rfl := Option.some.inj h
          exact e_z (v := 0) hx hb hr hlocks rfl hP hS dL_same_593
  have kB533 : ∀ (fuel : Nat) (qv : Nat → Int32) (kev : Nat → Int32) (bov : Nat → Int32) (wrv : Nat → Int32) (opv : Nat → Int64) (cs : CS) (y1 : Int32) (y7 : Int32) (y8 : Int32) (y9 : Int32) (y10 : Int32) (y11 : Int32), fL_same_b533 fuel qv kev bov wrv opv cs y1 y7 y8 y9 y10 y11 = some res → ∀ (H : Heap) (locs : List Loc), va_P (dC, dI) vwCl (((arrW cyI aq 4 qv) ++ (arrW cyI ak 24 kev) ++ (arrW cyI ab 12 bov) ++ (arrW cyI aw 64 wrv) ++ (larrW cyL ao 2 opv)) ++ mainC cyI cyO cyL ad had cs) H → va_D A (((arrW cyI aq 4 qv) ++ (arrW cyI ak 24 kev) ++ (arrW cyI ab 12 bov) ++ (arrW cyI aw 64 wrv) ++ (larrW cyL ao 2 opv)) ++ mainC cyI cyO cyL ad had cs) → va_S A s.heap H locs → ∀ ls : Array Slot, lv_has ls 17 [(0, .ref (ad 0)), (1, .int y1), (2, .ref aq), (3, .ref ak), (4, .ref ab), (5, .ref aw), (6, .ref ao), (7, .int y7), (8, .int y8), (9, .int y9), (10, .int y10), (11, .int y11)] → W p l e (headSpec (wsG yL_same cL_same 17 (some .boolean)) ({ frames := 7, cells := 0, slots := 0, locals := 162 })).room s m (([.ref (ad 0), .int x1, .ref aq, .ref ak, .ref ab, .ref aw, .ref ao] : List Value).toArray) below meth c H locs 0 0 (MQ below (cI dC dI res.1 (((arrW cyI aq 4 qv) ++ (arrW cyI ak 24 kev) ++ (arrW cyI ab 12 bov) ++ (arrW cyI aw 64 wrv) ++ (larrW cyL ao 2 res.2.1)) ++ mainC cyI cyO cyL ad had res.2.2) A) ([.ref (ad 0), .int x1, .ref aq, .ref ak, .ref ab, .ref aw, .ref ao] : List Value).toArray s 0 0 A) (F0 m 533 ls []) := by
    intro fuel
    induction fuel with
    | zero => intro qv kev bov wrv opv cs y1 y7 y8 y9 y10 y11 h; rw [fL_same_b533] at h; cases h
    | succ fuel ih =>
      intro qv kev bov wrv opv cs y1 y7 y8 y9 y10 y11 h H locs hP hD hS ls hl
      rw [fL_same_b533] at h
      refine lv_iload hx hb dL_same_533 (lv_at hl 11 rfl) ?_
      refine lv_bipush (v := 8) hx hb dL_same_535 (by decide) ?_
      refine lv_icmp_ge (tgt := 633) hx hb dL_same_537 (by decide) (fun c78 => ?_) (fun c78 => ?_)
      · have h := (if_pos c78).symm.trans h
        exact kB633 qv kev bov wrv opv cs y7 y8 y9 y10 h _ _ hP hD hS ls (lv_sub hl [0, 2, 4, 5, 7, 8, 9, 10] rfl)
      · have h := (if_neg c78).symm.trans h
        refine lv_iload hx hb dL_same_540 (lv_at hl 11 rfl) ?_
        refine lv_iconst (v := (-1)) hx hb dL_same_542 (by decide) ?_
        refine lv_iconst (v := 0) hx hb dL_same_543 (by decide) ?_
        refine lv_aload_n hx hb dL_same_544 rfl (lv_at hl 2 rfl) ?_
        refine lv_aload_n hx hb dL_same_545 rfl (lv_at hl 3 rfl) ?_
        refine lv_aload hx hb dL_same_546 (lv_at hl 5 rfl) ?_
        refine lv_aload hx hb dL_same_548 (lv_at hl 6 rfl) ?_
        obtain ⟨q79, e80, h⟩ := ob h
        refine fr_vK (L1 := ((arrW cyI aq 4 qv) ++ (arrW cyI ak 24 kev) ++ (arrW cyI ab 12 bov) ++ (arrW cyI aw 64 wrv) ++ (larrW cyL ao 2 opv))) (M := ((arrW cyI aq 4 qv) ++ (arrW cyI ak 24 kev) ++ (arrW cyI aw 64 wrv) ++ (larrW cyL ao 2 opv))) (M' := ((arrW cyI aq 4 qv) ++ (arrW cyI ak 24 kev) ++ (arrW cyI aw 64 wrv) ++ (larrW cyL ao 2 q79))) (L2 := ((arrW cyI aq 4 qv) ++ (arrW cyI ak 24 kev) ++ (arrW cyI ab 12 bov) ++ (arrW cyI aw 64 wrv) ++ (larrW cyL ao 2 q79))) (va_runS (As := [.int y11, .int (-1), .int 0, .ref aq, .ref ak, .ref aw, .ref ao]) (rest := []) ⟨hx, hb, hml, hown, hts⟩ (mL_open l dC dI cyI cyO cyL aq ak aw ao qv kev wrv opv y11 (-1) 0 _ q79 e80) (va_cwS 7 hts (gS ml_L_63 st_L_open in_L co_L_open) rfl rfl rfl (by decide +kernel) ⟨Nat.le_of_ble_eq_true rfl, Nat.le_of_ble_eq_true rfl⟩) (cP_S hK hP hD [0, 1, 3, 4] rfl rfl) rfl rfl hl.1 rfl (lv_room (Nat.le_of_ble_eq_true rfl)) dL_same_550 ⟨Nat.zero_le _, Nat.zero_le _⟩) hP hD hS hA [0, 1, 3, 4] rfl [(true, 0), (true, 1), (false, 2), (true, 2), (true, 3)] rfl rfl rfl (fun H locs hP hD hS => ?_)
        refine lv_aload_n hx hb dL_same_553 rfl (lv_at hl 2 rfl) ?_
        refine lv_aload hx hb dL_same_554 (lv_at hl 5 rfl) ?_
        refine lv_aload hx hb dL_same_556 (lv_at hl 6 rfl) ?_
        obtain ⟨q81, e82, h⟩ := ob h
        refine fr_ir (M := ((arrW cyI aq 4 qv) ++ (arrW cyI aw 64 wrv) ++ (larrW cyL ao 2 q79))) (va_runS (As := [.ref aq, .ref aw, .ref ao]) (rest := []) ⟨hx, hb, hml, hown, hts⟩ (mL_boxes l dC dI cyI cyO cyL aq aw ao qv wrv q79 _ q81 e82) (va_cwS 3 hts (gS ml_L_74 st_L_boxes in_L co_L_boxes) rfl rfl rfl (by decide +kernel) ⟨Nat.le_of_ble_eq_true rfl, Nat.le_of_ble_eq_true rfl⟩) (cP_S hK hP hD [0, 3, 4] rfl rfl) rfl rfl hl.1 rfl (lv_room (Nat.le_of_ble_eq_true rfl)) dL_same_558 ⟨Nat.zero_le _, Nat.zero_le _⟩) hP hD hS hA [0, 3, 4] rfl (fun H locs hP hS => ?_)
        refine lv_istore (lv' := [(12, .int q81), (0, .ref (ad 0)), (1, .int y1), (2, .ref aq), (3, .ref ak), (4, .ref ab), (5, .ref aw), (6, .ref ao), (7, .int y7), (8, .int y8), (9, .int y9), (10, .int y10), (11, .int y11)]) hx hb dL_same_561 hl (by decide) rfl (fun ls hl => ?_)
        refine lv_iconst (v := 0) hx hb dL_same_563 (by decide) ?_
        refine lv_istore (lv' := [(13, .int 0), (12, .int q81), (0, .ref (ad 0)), (1, .int y1), (2, .ref aq), (3, .ref ak), (4, .ref ab), (5, .ref aw), (6, .ref ao), (7, .int y7), (8, .int y8), (9, .int y9), (10, .int y10), (11, .int y11)]) hx hb dL_same_564 hl (by decide) rfl (fun ls hl => ?_)
        exact kB566 (fL_same_b533 fuel) ih 6000 qv kev bov wrv q79 cs y1 y7 y8 y9 y10 y11 q81 0 h _ _ hP hD hS ls (lv_sub hl [2, 3, 4, 5, 6, 7, 8, 9, 10, 11, 12, 13, 1, 0] rfl)
  have kB530 : ∀ (qv : Nat → Int32) (kev : Nat → Int32) (bov : Nat → Int32) (wrv : Nat → Int32) (opv : Nat → Int64) (cs : CS) (y1 : Int32) (y7 : Int32) (y8 : Int32) (y9 : Int32) (y10 : Int32), fL_same_b530 qv kev bov wrv opv cs y1 y7 y8 y9 y10 = some res → ∀ (H : Heap) (locs : List Loc), va_P (dC, dI) vwCl (((arrW cyI aq 4 qv) ++ (arrW cyI ak 24 kev) ++ (arrW cyI ab 12 bov) ++ (arrW cyI aw 64 wrv) ++ (larrW cyL ao 2 opv)) ++ mainC cyI cyO cyL ad had cs) H → va_D A (((arrW cyI aq 4 qv) ++ (arrW cyI ak 24 kev) ++ (arrW cyI ab 12 bov) ++ (arrW cyI aw 64 wrv) ++ (larrW cyL ao 2 opv)) ++ mainC cyI cyO cyL ad had cs) → va_S A s.heap H locs → ∀ ls : Array Slot, lv_has ls 17 [(0, .ref (ad 0)), (1, .int y1), (2, .ref aq), (3, .ref ak), (4, .ref ab), (5, .ref aw), (6, .ref ao), (7, .int y7), (8, .int y8), (9, .int y9), (10, .int y10)] → W p l e (headSpec (wsG yL_same cL_same 17 (some .boolean)) ({ frames := 7, cells := 0, slots := 0, locals := 162 })).room s m (([.ref (ad 0), .int x1, .ref aq, .ref ak, .ref ab, .ref aw, .ref ao] : List Value).toArray) below meth c H locs 0 0 (MQ below (cI dC dI res.1 (((arrW cyI aq 4 qv) ++ (arrW cyI ak 24 kev) ++ (arrW cyI ab 12 bov) ++ (arrW cyI aw 64 wrv) ++ (larrW cyL ao 2 res.2.1)) ++ mainC cyI cyO cyL ad had res.2.2) A) ([.ref (ad 0), .int x1, .ref aq, .ref ak, .ref ab, .ref aw, .ref ao] : List Value).toArray s 0 0 A) (F0 m 530 ls []) := by
    intro qv kev bov wrv opv cs y1 y7 y8 y9 y10 h H locs hP hD hS ls hl
    unfold fL_same_b530 at h
    refine lv_iconst (v := 0) hx hb dL_same_530 (by decide) ?_
    refine lv_istore (lv' := [(11, .int 0), (0, .ref (ad 0)), (1, .int y1), (2, .ref aq), (3, .ref ak), (4, .ref ab), (5, .ref aw), (6, .ref ao), (7, .int y7), (8, .int y8), (9, .int y9), (10, .int y10)]) hx hb dL_same_531 hl (by decide) rfl (fun ls hl => ?_)
    exact kB533 6000 qv kev bov wrv opv cs y1 y7 y8 y9 y10 0 h _ _ hP hD hS ls (lv_sub hl [1, 2, 3, 4, 5, 6, 7, 8, 9, 10, 11, 0] rfl)
  have kB468 : ∀ (k15 : (Nat → Int32) → (Nat → Int32) → (Nat → Int32) → (Nat → Int32) → (Nat → Int64) → CS → Int32 → Int32 → Int32 → Int32 → Int32 → Int32 → Option (Int32 × (Nat → Int64) × (CS))) (hk15 : ∀ (qv : Nat → Int32) (kev : Nat → Int32) (bov : Nat → Int32) (wrv : Nat → Int32) (opv : Nat → Int64) (cs : CS) (y1 : Int32) (y7 : Int32) (y8 : Int32) (y9 : Int32) (y10 : Int32) (y11 : Int32), k15 qv kev bov wrv opv cs y1 y7 y8 y9 y10 y11 = some res → ∀ (H : Heap) (locs : List Loc), va_P (dC, dI) vwCl (((arrW cyI aq 4 qv) ++ (arrW cyI ak 24 kev) ++ (arrW cyI ab 12 bov) ++ (arrW cyI aw 64 wrv) ++ (larrW cyL ao 2 opv)) ++ mainC cyI cyO cyL ad had cs) H → va_D A (((arrW cyI aq 4 qv) ++ (arrW cyI ak 24 kev) ++ (arrW cyI ab 12 bov) ++ (arrW cyI aw 64 wrv) ++ (larrW cyL ao 2 opv)) ++ mainC cyI cyO cyL ad had cs) → va_S A s.heap H locs → ∀ ls : Array Slot, lv_has ls 17 [(0, .ref (ad 0)), (1, .int y1), (2, .ref aq), (3, .ref ak), (4, .ref ab), (5, .ref aw), (6, .ref ao), (7, .int y7), (8, .int y8), (9, .int y9), (10, .int y10), (11, .int y11)] → W p l e (headSpec (wsG yL_same cL_same 17 (some .boolean)) ({ frames := 7, cells := 0, slots := 0, locals := 162 })).room s m (([.ref (ad 0), .int x1, .ref aq, .ref ak, .ref ab, .ref aw, .ref ao] : List Value).toArray) below meth c H locs 0 0 (MQ below (cI dC dI res.1 (((arrW cyI aq 4 qv) ++ (arrW cyI ak 24 kev) ++ (arrW cyI ab 12 bov) ++ (arrW cyI aw 64 wrv) ++ (larrW cyL ao 2 res.2.1)) ++ mainC cyI cyO cyL ad had res.2.2) A) ([.ref (ad 0), .int x1, .ref aq, .ref ak, .ref ab, .ref aw, .ref ao] : List Value).toArray s 0 0 A) (F0 m 15 ls [])) (qv : Nat → Int32) (kev : Nat → Int32) (bov : Nat → Int32) (wrv : Nat → Int32) (opv : Nat → Int64) (cs : CS) (y1 : Int32) (y7 : Int32) (y8 : Int32) (y9 : Int32) (y10 : Int32) (y11 : Int32) (y15 : Int32) (y16 : Int32) (z0 : Int32) (z1 : Int32), fL_same_b468 k15 qv kev bov wrv opv cs y1 y7 y8 y9 y10 y11 y15 y16 z0 z1 = some res → ∀ (H : Heap) (locs : List Loc), va_P (dC, dI) vwCl (((arrW cyI aq 4 qv) ++ (arrW cyI ak 24 kev) ++ (arrW cyI ab 12 bov) ++ (arrW cyI aw 64 wrv) ++ (larrW cyL ao 2 opv)) ++ mainC cyI cyO cyL ad had cs) H → va_D A (((arrW cyI aq 4 qv) ++ (arrW cyI ak 24 kev) ++ (arrW cyI ab 12 bov) ++ (arrW cyI aw 64 wrv) ++ (larrW cyL ao 2 opv)) ++ mainC cyI cyO cyL ad had cs) → va_S A s.heap H locs → ∀ ls : Array Slot, lv_has ls 17 [(0, .ref (ad 0)), (1, .int y1), (2, .ref aq), (3, .ref ak), (4, .ref ab), (5, .ref aw), (6, .ref ao), (7, .int y7), (8, .int y8), (9, .int y9), (10, .int y10), (11, .int y11), (15, .int y15), (16, .int y16)] → W p l e (headSpec (wsG yL_same cL_same 17 (some .boolean)) ({ frames := 7, cells := 0, slots := 0, locals := 162 })).room s m (([.ref (ad 0), .int x1, .ref aq, .ref ak, .ref ab, .ref aw, .ref ao] : List Value).toArray) below meth c H locs 0 0 (MQ below (cI dC dI res.1 (((arrW cyI aq 4 qv) ++ (arrW cyI ak 24 kev) ++ (arrW cyI ab 12 bov) ++ (arrW cyI aw 64 wrv) ++ (larrW cyL ao 2 res.2.1)) ++ mainC cyI cyO cyL ad had res.2.2) A) ([.ref (ad 0), .int x1, .ref aq, .ref ak, .ref ab, .ref aw, .ref ao] : List Value).toArray s 0 0 A) (F0 m 468 ls [.int z1, .int z0]) := by
    intro k15 hk15 qv kev bov wrv opv cs y1 y7 y8 y9 y10 y11 y15 y16 z0 z1 h H locs hP hD hS ls hl
    unfold fL_same_b468 at h
    refine lv_icmp_eq (tgt := 473) hx hb dL_same_468 (by decide) (fun c83 => ?_) (fun c83 => ?_)
    · have h := (if_pos c83).symm.trans h
      refine lv_iload hx hb dL_same_473 (lv_at hl 13 rfl) ?_
      refine lv_iload hx hb dL_same_475 (lv_at hl 11 rfl) ?_
      refine lv_iload hx hb dL_same_477 (lv_at hl 12 rfl) ?_
      refine lv_aload_n hx hb dL_same_479 rfl (lv_at hl 2 rfl) ?_
      refine lv_aload_n hx hb dL_same_480 rfl (lv_at hl 3 rfl) ?_
      refine lv_aload hx hb dL_same_481 (lv_at hl 5 rfl) ?_
      refine lv_aload hx hb dL_same_483 (lv_at hl 6 rfl) ?_
      obtain ⟨q84, e85, h⟩ := ob h
      refine fr_vK (L1 := ((arrW cyI aq 4 qv) ++ (arrW cyI ak 24 kev) ++ (arrW cyI ab 12 bov) ++ (arrW cyI aw 64 wrv) ++ (larrW cyL ao 2 opv))) (M := ((arrW cyI aq 4 qv) ++ (arrW cyI ak 24 kev) ++ (arrW cyI aw 64 wrv) ++ (larrW cyL ao 2 opv))) (M' := ((arrW cyI aq 4 qv) ++ (arrW cyI ak 24 kev) ++ (arrW cyI aw 64 wrv) ++ (larrW cyL ao 2 q84))) (L2 := ((arrW cyI aq 4 qv) ++ (arrW cyI ak 24 kev) ++ (arrW cyI ab 12 bov) ++ (arrW cyI aw 64 wrv) ++ (larrW cyL ao 2 q84))) (va_runS (As := [.int y16, .int y11, .int y15, .ref aq, .ref ak, .ref aw, .ref ao]) (rest := []) ⟨hx, hb, hml, hown, hts⟩ (mL_open l dC dI cyI cyO cyL aq ak aw ao qv kev wrv opv y16 y11 y15 _ q84 e85) (va_cwS 7 hts (gS ml_L_63 st_L_open in_L co_L_open) rfl rfl rfl (by decide +kernel) ⟨Nat.le_of_ble_eq_true rfl, Nat.le_of_ble_eq_true rfl⟩) (cP_S hK hP hD [0, 1, 3, 4] rfl rfl) rfl rfl hl.1 rfl (lv_room (Nat.le_of_ble_eq_true rfl)) dL_same_485 ⟨Nat.zero_le _, Nat.zero_le _⟩) hP hD hS hA [0, 1, 3, 4] rfl [(true, 0), (true, 1), (false, 2), (true, 2), (true, 3)] rfl rfl rfl (fun H locs hP hD hS => ?_)
      refine lv_aload_n hx hb dL_same_488 rfl (lv_at hl 0 rfl) ?_
      refine lv_iload hx hb dL_same_489 (lv_at hl 11 rfl) ?_
      refine lv_iload hx hb dL_same_491 (lv_at hl 12 rfl) ?_
      refine lv_iload hx hb dL_same_493 (lv_at hl 13 rfl) ?_
      obtain ⟨q86, e87, h⟩ := ob h
      refine fr_iG (M := mainC cyI cyO cyL ad had cs) (M' := mainC cyI cyO cyL ad had q86.2) (L' := (((arrW cyI aq 4 qv) ++ (arrW cyI ak 24 kev) ++ (arrW cyI ab 12 bov) ++ (arrW cyI aw 64 wrv) ++ (larrW cyL ao 2 q84)) ++ mainC cyI cyO cyL ad had q86.2)) (F := ((arrW cyI aq 4 qv) ++ (arrW cyI ak 24 kev) ++ (arrW cyI ab 12 bov) ++ (arrW cyI aw 64 wrv) ++ (larrW cyL ao 2 q84))) (va_runV (As := [.int y11, .int y15, .int y16]) (rest := []) ⟨hx, hb, hml, hown, hts⟩ (uX7_leaks l dC dI cyI cyO cyL ad had cs q86.2 y11 y15 y16 q86.1 e87 _) (cwV 3 hts (gV ml_L_71 im_X7_leaks se_X7_leaks in_X7 co_X7_leaks) rfl rfl rfl (by decide +kernel) ⟨Nat.le_of_ble_eq_true rfl, Nat.le_of_ble_eq_true rfl⟩) (cP_VG hK hP hD List.perm_append_comm 0 rfl rfl) rfl rfl hl.1 rfl (lv_room (Nat.le_of_ble_eq_true rfl)) dL_same_495 ⟨Nat.zero_le _, Nat.zero_le _⟩) hP hD hS hA List.perm_append_comm List.perm_append_comm mainC_ads (fun H locs hP hD hS => ?_)
      refine lv_aload_n hx hb dL_same_498 rfl (lv_at hl 3 rfl) ?_
      refine lv_iconst (v := 4) hx hb dL_same_499 (by decide) ?_
      refine lv_iload hx hb dL_same_500 (lv_at hl 11 rfl) ?_
      refine lv_imul hx hb dL_same_502 ?_
      obtain ⟨ni88, h⟩ := ifn h
      refine va_iald hx hb hK.1 hP 1 0 rfl rfl ni88 dL_same_503 ?_
      refine lv_if_ge (tgt := 518) hx hb dL_same_504 (by decide) (fun c89 => ?_) (fun c89 => ?_)
      · have h := (if_pos c89).symm.trans h
        refine lv_iconst (v := (-1)) hx hb dL_same_518 (by decide) ?_
        refine lv_icmp_eq (tgt := 524) hx hb dL_same_519 (by decide) (fun c90 => ?_) (fun c90 => ?_)
        · have h := (if_pos c90).symm.trans h
          refine lv_iinc (v := (y11 + 1)) (lv' := [(11, .int (y11 + 1)), (0, .ref (ad 0)), (1, .int y1), (2, .ref aq), (3, .ref ak), (4, .ref ab), (5, .ref aw), (6, .ref ao), (7, .int y7), (8, .int y8), (9, .int y9), (10, .int y10), (15, .int y15), (16, .int y16)]) hx hb dL_same_524 hl (k := 11) rfl rfl (by decide) rfl (fun ls hl => ?_)
          refine lv_goto (tgt := 15) hx hb dL_same_527 (by decide) ?_
          exact hk15 qv kev bov wrv q84 q86.2 y1 y7 y8 y9 y10 (y11 + 1) h _ _ hP hD hS ls (lv_sub hl [1, 2, 3, 4, 5, 6, 7, 8, 9, 10, 11, 0] rfl)
        · have h := (if_neg c90).symm.trans h
          refine lv_iconst (v := 0) hx hb dL_same_522 (by decide) ?_
          obtain rfl := Option.some.inj h
          exact e_z (v := 0) hx hb hr hlocks rfl hP hS dL_same_523
      · have h := (if_neg c89).symm.trans h
        refine lv_aload_n hx hb dL_same_507 rfl (lv_at hl 2 rfl) ?_
        refine lv_aload hx hb dL_same_508 (lv_at hl 5 rfl) ?_
        refine lv_aload hx hb dL_same_510 (lv_at hl 6 rfl) ?_
        obtain ⟨q91, e92, h⟩ := ob h
        refine fr_ir (M := ((arrW cyI aq 4 qv) ++ (arrW cyI aw 64 wrv) ++ (larrW cyL ao 2 q84))) (va_runS (As := [.ref aq, .ref aw, .ref ao]) (rest := [.int q86.1]) ⟨hx, hb, hml, hown, hts⟩ (mL_boxes l dC dI cyI cyO cyL aq aw ao qv wrv q84 _ q91 e92) (va_cwS 3 hts (gS ml_L_74 st_L_boxes in_L co_L_boxes) rfl rfl rfl (by decide +kernel) ⟨Nat.le_of_ble_eq_true rfl, Nat.le_of_ble_eq_true rfl⟩) (cP_S hK hP hD [0, 3, 4] rfl rfl) rfl rfl hl.1 rfl (lv_room (Nat.le_of_ble_eq_true rfl)) dL_same_512 ⟨Nat.zero_le _, Nat.zero_le _⟩) hP hD hS hA [0, 3, 4] rfl (fun H locs hP hS => ?_)
        refine lv_goto (tgt := 519) hx hb dL_same_515 (by decide) ?_
        refine lv_icmp_eq (tgt := 524) hx hb dL_same_519 (by decide) (fun c93 => ?_) (fun c93 => ?_)
        · have h := (if_pos c93).symm.trans h
          refine lv_iinc (v := (y11 + 1)) (lv' := [(11, .int (y11 + 1)), (0, .ref (ad 0)), (1, .int y1), (2, .ref aq), (3, .ref ak), (4, .ref ab), (5, .ref aw), (6, .ref ao), (7, .int y7), (8, .int y8), (9, .int y9), (10, .int y10), (15, .int y15), (16, .int y16)]) hx hb dL_same_524 hl (k := 11) rfl rfl (by decide) rfl (fun ls hl => ?_)
          refine lv_goto (tgt := 15) hx hb dL_same_527 (by decide) ?_
          exact hk15 qv kev bov wrv q84 q86.2 y1 y7 y8 y9 y10 (y11 + 1) h _ _ hP hD hS ls (lv_sub hl [1, 2, 3, 4, 5, 6, 7, 8, 9, 10, 11, 0] rfl)
        · have h := (if_neg c93).symm.trans h
          refine lv_iconst (v := 0) hx hb dL_same_522 (by decide) ?_
          obtain rfl := Option.some.inj h
          exact e_z (v := 0) hx hb hr hlocks rfl hP hS dL_same_523
    · have h := (if_neg c83).symm.trans h
      refine lv_iconst (v := 0) hx hb dL_same_471 (by decide) ?_
      obtain rfl := Option.some.inj h
      exact e_z (v := 0) hx hb hr hlocks rfl hP hS dL_same_472
  have kB390 : ∀ (k15 : (Nat → Int32) → (Nat → Int32) → (Nat → Int32) → (Nat → Int32) → (Nat → Int64) → CS → Int32 → Int32 → Int32 → Int32 → Int32 → Int32 → Option (Int32 × (Nat → Int64) × (CS))) (hk15 : ∀ (qv : Nat → Int32) (kev : Nat → Int32) (bov : Nat → Int32) (wrv : Nat → Int32) (opv : Nat → Int64) (cs : CS) (y1 : Int32) (y7 : Int32) (y8 : Int32) (y9 : Int32) (y10 : Int32) (y11 : Int32), k15 qv kev bov wrv opv cs y1 y7 y8 y9 y10 y11 = some res → ∀ (H : Heap) (locs : List Loc), va_P (dC, dI) vwCl (((arrW cyI aq 4 qv) ++ (arrW cyI ak 24 kev) ++ (arrW cyI ab 12 bov) ++ (arrW cyI aw 64 wrv) ++ (larrW cyL ao 2 opv)) ++ mainC cyI cyO cyL ad had cs) H → va_D A (((arrW cyI aq 4 qv) ++ (arrW cyI ak 24 kev) ++ (arrW cyI ab 12 bov) ++ (arrW cyI aw 64 wrv) ++ (larrW cyL ao 2 opv)) ++ mainC cyI cyO cyL ad had cs) → va_S A s.heap H locs → ∀ ls : Array Slot, lv_has ls 17 [(0, .ref (ad 0)), (1, .int y1), (2, .ref aq), (3, .ref ak), (4, .ref ab), (5, .ref aw), (6, .ref ao), (7, .int y7), (8, .int y8), (9, .int y9), (10, .int y10), (11, .int y11)] → W p l e (headSpec (wsG yL_same cL_same 17 (some .boolean)) ({ frames := 7, cells := 0, slots := 0, locals := 162 })).room s m (([.ref (ad 0), .int x1, .ref aq, .ref ak, .ref ab, .ref aw, .ref ao] : List Value).toArray) below meth c H locs 0 0 (MQ below (cI dC dI res.1 (((arrW cyI aq 4 qv) ++ (arrW cyI ak 24 kev) ++ (arrW cyI ab 12 bov) ++ (arrW cyI aw 64 wrv) ++ (larrW cyL ao 2 res.2.1)) ++ mainC cyI cyO cyL ad had res.2.2) A) ([.ref (ad 0), .int x1, .ref aq, .ref ak, .ref ab, .ref aw, .ref ao] : List Value).toArray s 0 0 A) (F0 m 15 ls [])) (qv : Nat → Int32) (kev : Nat → Int32) (bov : Nat → Int32) (wrv : Nat → Int32) (opv : Nat → Int64) (cs : CS) (y1 : Int32) (y7 : Int32) (y8 : Int32) (y9 : Int32) (y10 : Int32) (y11 : Int32), fL_same_b390 k15 qv kev bov wrv opv cs y1 y7 y8 y9 y10 y11 = some res → ∀ (H : Heap) (locs : List Loc), va_P (dC, dI) vwCl (((arrW cyI aq 4 qv) ++ (arrW cyI ak 24 kev) ++ (arrW cyI ab 12 bov) ++ (arrW cyI aw 64 wrv) ++ (larrW cyL ao 2 opv)) ++ mainC cyI cyO cyL ad had cs) H → va_D A (((arrW cyI aq 4 qv) ++ (arrW cyI ak 24 kev) ++ (arrW cyI ab 12 bov) ++ (arrW cyI aw 64 wrv) ++ (larrW cyL ao 2 opv)) ++ mainC cyI cyO cyL ad had cs) → va_S A s.heap H locs → ∀ ls : Array Slot, lv_has ls 17 [(0, .ref (ad 0)), (1, .int y1), (2, .ref aq), (3, .ref ak), (4, .ref ab), (5, .ref aw), (6, .ref ao), (7, .int y7), (8, .int y8), (9, .int y9), (10, .int y10), (11, .int y11)] → W p l e (headSpec (wsG yL_same cL_same 17 (some .boolean)) ({ frames := 7, cells := 0, slots := 0, locals := 162 })).room s m (([.ref (ad 0), .int x1, .ref aq, .ref ak, .ref ab, .ref aw, .ref ao] : List Value).toArray) below meth c H locs 0 0 (MQ below (cI dC dI res.1 (((arrW cyI aq 4 qv) ++ (arrW cyI ak 24 kev) ++ (arrW cyI ab 12 bov) ++ (arrW cyI aw 64 wrv) ++ (larrW cyL ao 2 res.2.1)) ++ mainC cyI cyO cyL ad had res.2.2) A) ([.ref (ad 0), .int x1, .ref aq, .ref ak, .ref ab, .ref aw, .ref ao] : List Value).toArray s 0 0 A) (F0 m 390 ls []) := by
    intro k15 hk15 qv kev bov wrv opv cs y1 y7 y8 y9 y10 y11 h H locs hP hD hS ls hl
    unfold fL_same_b390 at h
    refine lv_iload_n hx hb dL_same_390 rfl (lv_at hl 1 rfl) ?_
    refine lv_iload hx hb dL_same_391 (lv_at hl 11 rfl) ?_
    refine lv_ishr hx hb dL_same_393 ?_
    refine lv_aload_n hx hb dL_same_394 rfl (lv_at hl 3 rfl) ?_
    refine lv_iconst (v := 4) hx hb dL_same_395 (by decide) ?_
    refine lv_iload hx hb dL_same_396 (lv_at hl 11 rfl) ?_
    refine lv_imul hx hb dL_same_398 ?_
    refine lv_iconst (v := 2) hx hb dL_same_399 (by decide) ?_
    refine lv_iadd hx hb dL_same_400 ?_
    obtain ⟨ni94, h⟩ := ifn h
    refine va_iald hx hb hK.1 hP 1 0 rfl rfl ni94 dL_same_401 ?_
    refine lv_iconst (v := 2) hx hb dL_same_402 (by decide) ?_
    refine lv_iadd hx hb dL_same_403 ?_
    obtain ⟨q95, e96, h⟩ := ob h
    refine fr_ir (M := ([] : va_W)) (va_runS (As := [.int (y1 >>> (y11 &&& 31)), .int ((kev ((4 * y11) + 2).toNatClampNeg) + 2)]) (rest := []) ⟨hx, hb, hml, hown, hts⟩ (mL_low l dC dI cyI cyO cyL (y1 >>> (y11 &&& 31)) ((kev ((4 * y11) + 2).toNatClampNeg) + 2) _ q95 e96) (va_cwS 2 hts (gS ml_L_60 st_L_low in_L co_L_low) rfl rfl rfl (by decide +kernel) ⟨Nat.le_of_ble_eq_true rfl, Nat.le_of_ble_eq_true rfl⟩) (cP_S hK hP hD [] rfl rfl) rfl rfl hl.1 rfl (lv_room (Nat.le_of_ble_eq_true rfl)) dL_same_404 ⟨Nat.zero_le _, Nat.zero_le _⟩) hP hD hS hA [] rfl (fun H locs hP hS => ?_)
    refine lv_istore (lv' := [(15, .int q95), (0, .ref (ad 0)), (1, .int y1), (2, .ref aq), (3, .ref ak), (4, .ref ab), (5, .ref aw), (6, .ref ao), (7, .int y7), (8, .int y8), (9, .int y9), (10, .int y10), (11, .int y11)]) hx hb dL_same_407 hl (by decide) rfl (fun ls hl => ?_)
    refine lv_iload_n hx hb dL_same_409 rfl (lv_at hl 2 rfl) ?_
    refine lv_iconst (v := 3) hx hb dL_same_410 (by decide) ?_
    refine lv_iload hx hb dL_same_411 (lv_at hl 12 rfl) ?_
    refine lv_iadd hx hb dL_same_413 ?_
    refine lv_ishr hx hb dL_same_414 ?_
    refine lv_bipush (v := 8) hx hb dL_same_415 (by decide) ?_
    obtain ⟨q97, e98, h⟩ := ob h
    refine fr_ir (M := ([] : va_W)) (va_runS (As := [.int (y1 >>> ((3 + y11) &&& 31)), .int 8]) (rest := []) ⟨hx, hb, hml, hown, hts⟩ (mL_low l dC dI cyI cyO cyL (y1 >>> ((3 + y11) &&& 31)) 8 _ q97 e98) (va_cwS 2 hts (gS ml_L_60 st_L_low in_L co_L_low) rfl rfl rfl (by decide +kernel) ⟨Nat.le_of_ble_eq_true rfl, Nat.le_of_ble_eq_true rfl⟩) (cP_S hK hP hD [] rfl rfl) rfl rfl hl.1 rfl (lv_room (Nat.le_of_ble_eq_true rfl)) dL_same_417 ⟨Nat.zero_le _, Nat.zero_le _⟩) hP hD hS hA [] rfl (fun H locs hP hS => ?_)
    refine lv_istore (lv' := [(16, .int q97), (15, .int q95), (0, .ref (ad 0)), (1, .int y1), (2, .ref aq), (3, .ref ak), (4, .ref ab), (5, .ref aw), (6, .ref ao), (7, .int y7), (8, .int y8), (9, .int y9), (10, .int y10), (11, .int y11)]) hx hb dL_same_420 hl (by decide) rfl (fun ls hl => ?_)
    refine lv_iload hx hb dL_same_422 (lv_at hl 0 rfl) ?_
    refine lv_iconst (v := (-1)) hx hb dL_same_424 (by decide) ?_
    refine lv_iconst (v := 0) hx hb dL_same_425 (by decide) ?_
    refine lv_aload_n hx hb dL_same_426 rfl (lv_at hl 4 rfl) ?_
    refine lv_aload_n hx hb dL_same_427 rfl (lv_at hl 5 rfl) ?_
    refine lv_aload hx hb dL_same_428 (lv_at hl 7 rfl) ?_
    refine lv_aload hx hb dL_same_430 (lv_at hl 8 rfl) ?_
    obtain ⟨q99, e100, h⟩ := ob h
    refine fr_vK (L1 := ((arrW cyI aq 4 qv) ++ (arrW cyI ak 24 kev) ++ (arrW cyI ab 12 bov) ++ (arrW cyI aw 64 wrv) ++ (larrW cyL ao 2 opv))) (M := ((arrW cyI aq 4 qv) ++ (arrW cyI ak 24 kev) ++ (arrW cyI aw 64 wrv) ++ (larrW cyL ao 2 opv))) (M' := ((arrW cyI aq 4 qv) ++ (arrW cyI ak 24 kev) ++ (arrW cyI aw 64 wrv) ++ (larrW cyL ao 2 q99))) (L2 := ((arrW cyI aq 4 qv) ++ (arrW cyI ak 24 kev) ++ (arrW cyI ab 12 bov) ++ (arrW cyI aw 64 wrv) ++ (larrW cyL ao 2 q99))) (va_runS (As := [.int q97, .int (-1), .int 0, .ref aq, .ref ak, .ref aw, .ref ao]) (rest := []) ⟨hx, hb, hml, hown, hts⟩ (mL_open l dC dI cyI cyO cyL aq ak aw ao qv kev wrv opv q97 (-1) 0 _ q99 e100) (va_cwS 7 hts (gS ml_L_63 st_L_open in_L co_L_open) rfl rfl rfl (by decide +kernel) ⟨Nat.le_of_ble_eq_true rfl, Nat.le_of_ble_eq_true rfl⟩) (cP_S hK hP hD [0, 1, 3, 4] rfl rfl) rfl rfl hl.1 rfl (lv_room (Nat.le_of_ble_eq_true rfl)) dL_same_432 ⟨Nat.zero_le _, Nat.zero_le _⟩) hP hD hS hA [0, 1, 3, 4] rfl [(true, 0), (true, 1), (false, 2), (true, 2), (true, 3)] rfl rfl rfl (fun H locs hP hD hS => ?_)
    refine lv_aload_n hx hb dL_same_435 rfl (lv_at hl 2 rfl) ?_
    refine lv_iload hx hb dL_same_436 (lv_at hl 13 rfl) ?_
    refine lv_iload hx hb dL_same_438 (lv_at hl 1 rfl) ?_
    refine lv_iload hx hb dL_same_440 (lv_at hl 0 rfl) ?_
    obtain ⟨q101, e102, h⟩ := ob h
    refine fr_iG (M := mainC cyI cyO cyL ad had cs) (M' := mainC cyI cyO cyL ad had q101.2) (L' := (((arrW cyI aq 4 qv) ++ (arrW cyI ak 24 kev) ++ (arrW cyI ab 12 bov) ++ (arrW cyI aw 64 wrv) ++ (larrW cyL ao 2 q99)) ++ mainC cyI cyO cyL ad had q101.2)) (F := ((arrW cyI aq 4 qv) ++ (arrW cyI ak 24 kev) ++ (arrW cyI ab 12 bov) ++ (arrW cyI aw 64 wrv) ++ (larrW cyL ao 2 q99))) (va_runV (As := [.int y11, .int q95, .int q97]) (rest := []) ⟨hx, hb, hml, hown, hts⟩ (uX7_canHave l dC dI cyI cyO cyL ad had cs q101.2 y11 q95 q97 q101.1 e102 _) (cwV 3 hts (gV ml_L_67 im_X7_canHave se_X7_canHave in_X7 co_X7_canHave) rfl rfl rfl (by decide +kernel) ⟨Nat.le_of_ble_eq_true rfl, Nat.le_of_ble_eq_true rfl⟩) (cP_VG hK hP hD List.perm_append_comm 0 rfl rfl) rfl rfl hl.1 rfl (lv_room (Nat.le_of_ble_eq_true rfl)) dL_same_442 ⟨Nat.zero_le _, Nat.zero_le _⟩) hP hD hS hA List.perm_append_comm List.perm_append_comm mainC_ads (fun H locs hP hD hS => ?_)
    refine lv_iload hx hb dL_same_445 (lv_at hl 13 rfl) ?_
    refine lv_iload hx hb dL_same_447 (lv_at hl 1 rfl) ?_
    refine lv_iconst (v := (-1)) hx hb dL_same_449 (by decide) ?_
    refine lv_iconst (v := 0) hx hb dL_same_450 (by decide) ?_
    refine lv_aload_n hx hb dL_same_451 rfl (lv_at hl 4 rfl) ?_
    refine lv_aload_n hx hb dL_same_452 rfl (lv_at hl 5 rfl) ?_
    refine lv_aload hx hb dL_same_453 (lv_at hl 7 rfl) ?_
    refine lv_aload hx hb dL_same_455 (lv_at hl 8 rfl) ?_
    obtain ⟨q103, e104, h⟩ := ob h
    refine fr_ir (M := ((arrW cyI aq 4 qv) ++ (arrW cyI ak 24 kev) ++ (arrW cyI aw 64 wrv) ++ (larrW cyL ao 2 q99))) (va_runS (As := [.int y11, .int q95, .int (-1), .int 0, .ref aq, .ref ak, .ref aw, .ref ao]) (rest := [.int q101.1]) ⟨hx, hb, hml, hown, hts⟩ (mL_had l dC dI cyI cyO cyL aq ak aw ao qv kev wrv q99 y11 q95 (-1) 0 _ q103 e104) (va_cwS 8 hts (gS ml_L_43 st_L_had in_L co_L_had) rfl rfl rfl (by decide +kernel) ⟨Nat.le_of_ble_eq_true rfl, Nat.le_of_ble_eq_true rfl⟩) (cP_S hK hP hD [0, 1, 3, 4] rfl rfl) rfl rfl hl.1 rfl (lv_room (Nat.le_of_ble_eq_true rfl)) dL_same_457 ⟨Nat.zero_le _, Nat.zero_le _⟩) hP hD hS hA [0, 1, 3, 4] rfl (fun H locs hP hS => ?_)
    refine lv_if_eq (tgt := 467) hx hb dL_same_460 (by decide) (fun c105 => ?_) (fun c105 => ?_)
    · have h := (if_pos c105).symm.trans h
      refine lv_iconst (v := 0) hx hb dL_same_467 (by decide) ?_
      exact kB468 k15 hk15 qv kev bov wrv q99 q101.2 y1 y7 y8 y9 y10 y11 q95 q97 q101.1 0 h _ _ hP hD hS ls (lv_sub hl [2, 3, 4, 5, 6, 7, 8, 9, 10, 11, 12, 13, 1, 0] rfl)
    · have h := (if_neg c105).symm.trans h
      refine lv_iconst (v := 1) hx hb dL_same_463 (by decide) ?_
      refine lv_goto (tgt := 468) hx hb dL_same_464 (by decide) ?_
      exact kB468 k15 hk15 qv kev bov wrv q99 q101.2 y1 y7 y8 y9 y10 y11 q95 q97 q101.1 1 h _ _ hP hD hS ls (lv_sub hl [2, 3, 4, 5, 6, 7, 8, 9, 10, 11, 12, 13, 1, 0] rfl)
  have kB385 : ∀ (k15 : (Nat → Int32) → (Nat → Int32) → (Nat → Int32) → (Nat → Int32) → (Nat → Int64) → CS → Int32 → Int32 → Int32 → Int32 → Int32 → Int32 → Option (Int32 × (Nat → Int64) × (CS))) (hk15 : ∀ (qv : Nat → Int32) (kev : Nat → Int32) (bov : Nat → Int32) (wrv : Nat → Int32) (opv : Nat → Int64) (cs : CS) (y1 : Int32) (y7 : Int32) (y8 : Int32) (y9 : Int32) (y10 : Int32) (y11 : Int32), k15 qv kev bov wrv opv cs y1 y7 y8 y9 y10 y11 = some res → ∀ (H : Heap) (locs : List Loc), va_P (dC, dI) vwCl (((arrW cyI aq 4 qv) ++ (arrW cyI ak 24 kev) ++ (arrW cyI ab 12 bov) ++ (arrW cyI aw 64 wrv) ++ (larrW cyL ao 2 opv)) ++ mainC cyI cyO cyL ad had cs) H → va_D A (((arrW cyI aq 4 qv) ++ (arrW cyI ak 24 kev) ++ (arrW cyI ab 12 bov) ++ (arrW cyI aw 64 wrv) ++ (larrW cyL ao 2 opv)) ++ mainC cyI cyO cyL ad had cs) → va_S A s.heap H locs → ∀ ls : Array Slot, lv_has ls 17 [(0, .ref (ad 0)), (1, .int y1), (2, .ref aq), (3, .ref ak), (4, .ref ab), (5, .ref aw), (6, .ref ao), (7, .int y7), (8, .int y8), (9, .int y9), (10, .int y10), (11, .int y11)] → W p l e (headSpec (wsG yL_same cL_same 17 (some .boolean)) ({ frames := 7, cells := 0, slots := 0, locals := 162 })).room s m (([.ref (ad 0), .int x1, .ref aq, .ref ak, .ref ab, .ref aw, .ref ao] : List Value).toArray) below meth c H locs 0 0 (MQ below (cI dC dI res.1 (((arrW cyI aq 4 qv) ++ (arrW cyI ak 24 kev) ++ (arrW cyI ab 12 bov) ++ (arrW cyI aw 64 wrv) ++ (larrW cyL ao 2 res.2.1)) ++ mainC cyI cyO cyL ad had res.2.2) A) ([.ref (ad 0), .int x1, .ref aq, .ref ak, .ref ab, .ref aw, .ref ao] : List Value).toArray s 0 0 A) (F0 m 15 ls [])) (qv : Nat → Int32) (kev : Nat → Int32) (bov : Nat → Int32) (wrv : Nat → Int32) (opv : Nat → Int64) (cs : CS) (y1 : Int32) (y7 : Int32) (y8 : Int32) (y9 : Int32) (y10 : Int32) (y11 : Int32) (z0 : Int32) (z1 : Int32), fL_same_b385 k15 qv kev bov wrv opv cs y1 y7 y8 y9 y10 y11 z0 z1 = some res → ∀ (H : Heap) (locs : List Loc), va_P (dC, dI) vwCl (((arrW cyI aq 4 qv) ++ (arrW cyI ak 24 kev) ++ (arrW cyI ab 12 bov) ++ (arrW cyI aw 64 wrv) ++ (larrW cyL ao 2 opv)) ++ mainC cyI cyO cyL ad had cs) H → va_D A (((arrW cyI aq 4 qv) ++ (arrW cyI ak 24 kev) ++ (arrW cyI ab 12 bov) ++ (arrW cyI aw 64 wrv) ++ (larrW cyL ao 2 opv)) ++ mainC cyI cyO cyL ad had cs) → va_S A s.heap H locs → ∀ ls : Array Slot, lv_has ls 17 [(0, .ref (ad 0)), (1, .int y1), (2, .ref aq), (3, .ref ak), (4, .ref ab), (5, .ref aw), (6, .ref ao), (7, .int y7), (8, .int y8), (9, .int y9), (10, .int y10), (11, .int y11)] → W p l e (headSpec (wsG yL_same cL_same 17 (some .boolean)) ({ frames := 7, cells := 0, slots := 0, locals := 162 })).room s m (([.ref (ad 0), .int x1, .ref aq, .ref ak, .ref ab, .ref aw, .ref ao] : List Value).toArray) below meth c H locs 0 0 (MQ below (cI dC dI res.1 (((arrW cyI aq 4 qv) ++ (arrW cyI ak 24 kev) ++ (arrW cyI ab 12 bov) ++ (arrW cyI aw 64 wrv) ++ (larrW cyL ao 2 res.2.1)) ++ mainC cyI cyO cyL ad had res.2.2) A) ([.ref (ad 0), .int x1, .ref aq, .ref ak, .ref ab, .ref aw, .ref ao] : List Value).toArray s 0 0 A) (F0 m 385 ls [.int z1, .int z0]) := by
    intro k15 hk15 qv kev bov wrv opv cs y1 y7 y8 y9 y10 y11 z0 z1 h H locs hP hD hS ls hl
    unfold fL_same_b385 at h
    refine lv_icmp_eq (tgt := 390) hx hb dL_same_385 (by decide) (fun c106 => ?_) (fun c106 => ?_)
    · have h := (if_pos c106).symm.trans h
      exact kB390 k15 hk15 qv kev bov wrv opv cs y1 y7 y8 y9 y10 y11 h _ _ hP hD hS ls (lv_sub hl [0, 1, 2, 3, 4, 5, 6, 7, 8, 9, 10, 11] rfl)
    · have h := (if_neg c106).symm.trans h
      refine lv_iconst (v := 0) hx hb dL_same_388 (by decide) ?_
      obtain rfl := Option.some.inj h
      exact e_z (v := 0) hx hb hr hlocks rfl hP hS dL_same_389
  have kB361 : ∀ (k15 : (Nat → Int32) → (Nat → Int32) → (Nat → Int32) → (Nat → Int32) → (Nat → Int64) → CS → Int32 → Int32 → Int32 → Int32 → Int32 → Int32 → Option (Int32 × (Nat → Int64) × (CS))) (hk15 : ∀ (qv : Nat → Int32) (kev : Nat → Int32) (bov : Nat → Int32) (wrv : Nat → Int32) (opv : Nat → Int64) (cs : CS) (y1 : Int32) (y7 : Int32) (y8 : Int32) (y9 : Int32) (y10 : Int32) (y11 : Int32), k15 qv kev bov wrv opv cs y1 y7 y8 y9 y10 y11 = some res → ∀ (H : Heap) (locs : List Loc), va_P (dC, dI) vwCl (((arrW cyI aq 4 qv) ++ (arrW cyI ak 24 kev) ++ (arrW cyI ab 12 bov) ++ (arrW cyI aw 64 wrv) ++ (larrW cyL ao 2 opv)) ++ mainC cyI cyO cyL ad had cs) H → va_D A (((arrW cyI aq 4 qv) ++ (arrW cyI ak 24 kev) ++ (arrW cyI ab 12 bov) ++ (arrW cyI aw 64 wrv) ++ (larrW cyL ao 2 opv)) ++ mainC cyI cyO cyL ad had cs) → va_S A s.heap H locs → ∀ ls : Array Slot, lv_has ls 17 [(0, .ref (ad 0)), (1, .int y1), (2, .ref aq), (3, .ref ak), (4, .ref ab), (5, .ref aw), (6, .ref ao), (7, .int y7), (8, .int y8), (9, .int y9), (10, .int y10), (11, .int y11)] → W p l e (headSpec (wsG yL_same cL_same 17 (some .boolean)) ({ frames := 7, cells := 0, slots := 0, locals := 162 })).room s m (([.ref (ad 0), .int x1, .ref aq, .ref ak, .ref ab, .ref aw, .ref ao] : List Value).toArray) below meth c H locs 0 0 (MQ below (cI dC dI res.1 (((arrW cyI aq 4 qv) ++ (arrW cyI ak 24 kev) ++ (arrW cyI ab 12 bov) ++ (arrW cyI aw 64 wrv) ++ (larrW cyL ao 2 res.2.1)) ++ mainC cyI cyO cyL ad had res.2.2) A) ([.ref (ad 0), .int x1, .ref aq, .ref ak, .ref ab, .ref aw, .ref ao] : List Value).toArray s 0 0 A) (F0 m 15 ls [])) (qv : Nat → Int32) (kev : Nat → Int32) (bov : Nat → Int32) (wrv : Nat → Int32) (opv : Nat → Int64) (cs : CS) (y1 : Int32) (y7 : Int32) (y8 : Int32) (y9 : Int32) (y10 : Int32) (y11 : Int32) (y14 : Int32), fL_same_b361 k15 qv kev bov wrv opv cs y1 y7 y8 y9 y10 y11 y14 = some res → ∀ (H : Heap) (locs : List Loc), va_P (dC, dI) vwCl (((arrW cyI aq 4 qv) ++ (arrW cyI ak 24 kev) ++ (arrW cyI ab 12 bov) ++ (arrW cyI aw 64 wrv) ++ (larrW cyL ao 2 opv)) ++ mainC cyI cyO cyL ad had cs) H → va_D A (((arrW cyI aq 4 qv) ++ (arrW cyI ak 24 kev) ++ (arrW cyI ab 12 bov) ++ (arrW cyI aw 64 wrv) ++ (larrW cyL ao 2 opv)) ++ mainC cyI cyO cyL ad had cs) → va_S A s.heap H locs → ∀ ls : Array Slot, lv_has ls 17 [(0, .ref (ad 0)), (1, .int y1), (2, .ref aq), (3, .ref ak), (4, .ref ab), (5, .ref aw), (6, .ref ao), (7, .int y7), (8, .int y8), (9, .int y9), (10, .int y10), (11, .int y11), (14, .int y14)] → W p l e (headSpec (wsG yL_same cL_same 17 (some .boolean)) ({ frames := 7, cells := 0, slots := 0, locals := 162 })).room s m (([.ref (ad 0), .int x1, .ref aq, .ref ak, .ref ab, .ref aw, .ref ao] : List Value).toArray) below meth c H locs 0 0 (MQ below (cI dC dI res.1 (((arrW cyI aq 4 qv) ++ (arrW cyI ak 24 kev) ++ (arrW cyI ab 12 bov) ++ (arrW cyI aw 64 wrv) ++ (larrW cyL ao 2 res.2.1)) ++ mainC cyI cyO cyL ad had res.2.2) A) ([.ref (ad 0), .int x1, .ref aq, .ref ak, .ref ab, .ref aw, .ref ao] : List Value).toArray s 0 0 A) (F0 m 361 ls []) := by
    intro k15 hk15 qv kev bov wrv opv cs y1 y7 y8 y9 y10 y11 y14 h H locs hP hD hS ls hl
    unfold fL_same_b361 at h
    refine lv_aload_n hx hb dL_same_361 rfl (lv_at hl 0 rfl) ?_
    refine lv_iload hx hb dL_same_362 (lv_at hl 11 rfl) ?_
    obtain ⟨q107, e108, h⟩ := ob h
    refine fr_iG (M := mainC cyI cyO cyL ad had cs) (M' := mainC cyI cyO cyL ad had q107.2) (L' := (((arrW cyI aq 4 qv) ++ (arrW cyI ak 24 kev) ++ (arrW cyI ab 12 bov) ++ (arrW cyI aw 64 wrv) ++ (larrW cyL ao 2 opv)) ++ mainC cyI cyO cyL ad had q107.2)) (F := ((arrW cyI aq 4 qv) ++ (arrW cyI ak 24 kev) ++ (arrW cyI ab 12 bov) ++ (arrW cyI aw 64 wrv) ++ (larrW cyL ao 2 opv))) (va_runV (As := [.int y11]) (rest := []) ⟨hx, hb, hml, hown, hts⟩ (uX7_lostBy l dC dI cyI cyO cyL ad had cs q107.2 y11 q107.1 e108 _) (cwV 1 hts (gV ml_L_57 im_X7_lostBy se_X7_lostBy in_X7 co_X7_lostBy) rfl rfl rfl (by decide +kernel) ⟨Nat.le_of_ble_eq_true rfl, Nat.le_of_ble_eq_true rfl⟩) (cP_VG hK hP hD List.perm_append_comm 0 rfl rfl) rfl rfl hl.1 rfl (lv_room (Nat.le_of_ble_eq_true rfl)) dL_same_364 ⟨Nat.zero_le _, Nat.zero_le _⟩) hP hD hS hA List.perm_append_comm List.perm_append_comm mainC_ads (fun H locs hP hD hS => ?_)
    refine lv_aload_n hx hb dL_same_367 rfl (lv_at hl 3 rfl) ?_
    refine lv_iconst (v := 4) hx hb dL_same_368 (by decide) ?_
    refine lv_iload hx hb dL_same_369 (lv_at hl 11 rfl) ?_
    refine lv_imul hx hb dL_same_371 ?_
    refine lv_iconst (v := 1) hx hb dL_same_372 (by decide) ?_
    refine lv_iadd hx hb dL_same_373 ?_
    obtain ⟨ni109, h⟩ := ifn h
    refine va_iald hx hb hK.1 hP 1 0 rfl rfl ni109 dL_same_374 ?_
    refine lv_iconst (v := 1) hx hb dL_same_375 (by decide) ?_
    refine lv_icmp_ne (tgt := 384) hx hb dL_same_376 (by decide) (fun c110 => ?_) (fun c110 => ?_)
    · have h := (if_neg c110).symm.trans h
      refine lv_iconst (v := (-1)) hx hb dL_same_384 (by decide) ?_
      exact kB385 k15 hk15 qv kev bov wrv opv q107.2 y1 y7 y8 y9 y10 y11 q107.1 (-1) h _ _ hP hD hS ls (lv_sub hl [0, 1, 2, 3, 4, 5, 6, 7, 8, 9, 10, 11] rfl)
    · have h := (if_pos c110).symm.trans h
      refine lv_iload hx hb dL_same_379 (lv_at hl 12 rfl) ?_
      refine lv_goto (tgt := 385) hx hb dL_same_381 (by decide) ?_
      exact kB385 k15 hk15 qv kev bov wrv opv q107.2 y1 y7 y8 y9 y10 y11 q107.1 y14 h _ _ hP hD hS ls (lv_sub hl [0, 1, 2, 3, 4, 5, 6, 7, 8, 9, 10, 11] rfl)
  have kB305 : ∀ (k15 : (Nat → Int32) → (Nat → Int32) → (Nat → Int32) → (Nat → Int32) → (Nat → Int64) → CS → Int32 → Int32 → Int32 → Int32 → Int32 → Int32 → Option (Int32 × (Nat → Int64) × (CS))) (hk15 : ∀ (qv : Nat → Int32) (kev : Nat → Int32) (bov : Nat → Int32) (wrv : Nat → Int32) (opv : Nat → Int64) (cs : CS) (y1 : Int32) (y7 : Int32) (y8 : Int32) (y9 : Int32) (y10 : Int32) (y11 : Int32), k15 qv kev bov wrv opv cs y1 y7 y8 y9 y10 y11 = some res → ∀ (H : Heap) (locs : List Loc), va_P (dC, dI) vwCl (((arrW cyI aq 4 qv) ++ (arrW cyI ak 24 kev) ++ (arrW cyI ab 12 bov) ++ (arrW cyI aw 64 wrv) ++ (larrW cyL ao 2 opv)) ++ mainC cyI cyO cyL ad had cs) H → va_D A (((arrW cyI aq 4 qv) ++ (arrW cyI ak 24 kev) ++ (arrW cyI ab 12 bov) ++ (arrW cyI aw 64 wrv) ++ (larrW cyL ao 2 opv)) ++ mainC cyI cyO cyL ad had cs) → va_S A s.heap H locs → ∀ ls : Array Slot, lv_has ls 17 [(0, .ref (ad 0)), (1, .int y1), (2, .ref aq), (3, .ref ak), (4, .ref ab), (5, .ref aw), (6, .ref ao), (7, .int y7), (8, .int y8), (9, .int y9), (10, .int y10), (11, .int y11)] → W p l e (headSpec (wsG yL_same cL_same 17 (some .boolean)) ({ frames := 7, cells := 0, slots := 0, locals := 162 })).room s m (([.ref (ad 0), .int x1, .ref aq, .ref ak, .ref ab, .ref aw, .ref ao] : List Value).toArray) below meth c H locs 0 0 (MQ below (cI dC dI res.1 (((arrW cyI aq 4 qv) ++ (arrW cyI ak 24 kev) ++ (arrW cyI ab 12 bov) ++ (arrW cyI aw 64 wrv) ++ (larrW cyL ao 2 res.2.1)) ++ mainC cyI cyO cyL ad had res.2.2) A) ([.ref (ad 0), .int x1, .ref aq, .ref ak, .ref ab, .ref aw, .ref ao] : List Value).toArray s 0 0 A) (F0 m 15 ls [])) (fuel : Nat) (qv : Nat → Int32) (kev : Nat → Int32) (bov : Nat → Int32) (wrv : Nat → Int32) (opv : Nat → Int64) (cs : CS) (y1 : Int32) (y7 : Int32) (y8 : Int32) (y9 : Int32) (y10 : Int32) (y11 : Int32) (y14 : Int32) (y15 : Int32), fL_same_b305 k15 fuel qv kev bov wrv opv cs y1 y7 y8 y9 y10 y11 y14 y15 = some res → ∀ (H : Heap) (locs : List Loc), va_P (dC, dI) vwCl (((arrW cyI aq 4 qv) ++ (arrW cyI ak 24 kev) ++ (arrW cyI ab 12 bov) ++ (arrW cyI aw 64 wrv) ++ (larrW cyL ao 2 opv)) ++ mainC cyI cyO cyL ad had cs) H → va_D A (((arrW cyI aq 4 qv) ++ (arrW cyI ak 24 kev) ++ (arrW cyI ab 12 bov) ++ (arrW cyI aw 64 wrv) ++ (larrW cyL ao 2 opv)) ++ mainC cyI cyO cyL ad had cs) → va_S A s.heap H locs → ∀ ls : Array Slot, lv_has ls 17 [(0, .ref (ad 0)), (1, .int y1), (2, .ref aq), (3, .ref ak), (4, .ref ab), (5, .ref aw), (6, .ref ao), (7, .int y7), (8, .int y8), (9, .int y9), (10, .int y10), (11, .int y11), (14, .int y14), (15, .int y15)] → W p l e (headSpec (wsG yL_same cL_same 17 (some .boolean)) ({ frames := 7, cells := 0, slots := 0, locals := 162 })).room s m (([.ref (ad 0), .int x1, .ref aq, .ref ak, .ref ab, .ref aw, .ref ao] : List Value).toArray) below meth c H locs 0 0 (MQ below (cI dC dI res.1 (((arrW cyI aq 4 qv) ++ (arrW cyI ak 24 kev) ++ (arrW cyI ab 12 bov) ++ (arrW cyI aw 64 wrv) ++ (larrW cyL ao 2 res.2.1)) ++ mainC cyI cyO cyL ad had res.2.2) A) ([.ref (ad 0), .int x1, .ref aq, .ref ak, .ref ab, .ref aw, .ref ao] : List Value).toArray s 0 0 A) (F0 m 305 ls []) := by
    intro k15 hk15 fuel
    induction fuel with
    | zero => intro qv kev bov wrv opv cs y1 y7 y8 y9 y10 y11 y14 y15 h; rw [fL_same_b305] at h; cases h
    | succ fuel ih =>
      intro qv kev bov wrv opv cs y1 y7 y8 y9 y10 y11 y14 y15 h H locs hP hD hS ls hl
      rw [fL_same_b305] at h
      refine lv_iload hx hb dL_same_305 (lv_at hl 13 rfl) ?_
      refine lv_aload_n hx hb dL_same_307 rfl (lv_at hl 2 rfl) ?_
      refine lv_iconst (v := 2) hx hb dL_same_308 (by decide) ?_
      obtain ⟨ni111, h⟩ := ifn h
      refine va_iald hx hb hK.1 hP 0 0 rfl rfl ni111 dL_same_309 ?_
      refine lv_icmp_ge (tgt := 361) hx hb dL_same_310 (by decide) (fun c112 => ?_) (fun c112 => ?_)
      · have h := (if_pos c112).symm.trans h
        exact kB361 k15 hk15 qv kev bov wrv opv cs y1 y7 y8 y9 y10 y11 y14 h _ _ hP hD hS ls (lv_sub hl [0, 1, 2, 3, 4, 5, 6, 7, 8, 9, 10, 11, 12] rfl)
      · have h := (if_neg c112).symm.trans h
        refine lv_iload hx hb dL_same_313 (lv_at hl 12 rfl) ?_
        refine lv_aload hx hb dL_same_315 (lv_at hl 4 rfl) ?_
        refine lv_iconst (v := 2) hx hb dL_same_317 (by decide) ?_
        refine lv_iload hx hb dL_same_318 (lv_at hl 13 rfl) ?_
        refine lv_imul hx hb dL_same_320 ?_
        refine lv_iconst (v := 1) hx hb dL_same_321 (by decide) ?_
        refine lv_iadd hx hb dL_same_322 ?_
        obtain ⟨ni113, h⟩ := ifn h
        refine va_iald hx hb hK.1 hP 2 0 rfl rfl ni113 dL_same_323 ?_
        refine lv_iconst (v := 1) hx hb dL_same_324 (by decide) ?_
        refine lv_icmp_ne (tgt := 351) hx hb dL_same_325 (by decide) (fun c114 => ?_) (fun c114 => ?_)
        · have h := (if_neg c114).symm.trans h
          refine lv_iconst (v := 0) hx hb dL_same_351 (by decide) ?_
          refine lv_ior hx hb dL_same_352 ?_
          refine lv_istore (lv' := [(14, .int (y14 ||| 0)), (0, .ref (ad 0)), (1, .int y1), (2, .ref aq), (3, .ref ak), (4, .ref ab), (5, .ref aw), (6, .ref ao), (7, .int y7), (8, .int y8), (9, .int y9), (10, .int y10), (11, .int y11), (15, .int y15)]) hx hb dL_same_353 hl (by decide) rfl (fun ls hl => ?_)
          refine lv_iinc (v := (y15 + 1)) (lv' := [(15, .int (y15 + 1)), (14, .int (y14 ||| 0)), (0, .ref (ad 0)), (1, .int y1), (2, .ref aq), (3, .ref ak), (4, .ref ab), (5, .ref aw), (6, .ref ao), (7, .int y7), (8, .int y8), (9, .int y9), (10, .int y10), (11, .int y11)]) hx hb dL_same_355 hl (k := 13) rfl rfl (by decide) rfl (fun ls hl => ?_)
          refine lv_goto (tgt := 305) hx hb dL_same_358 (by decide) ?_
          exact ih qv kev bov wrv opv cs y1 y7 y8 y9 y10 y11 (y14 ||| 0) (y15 + 1) h _ _ hP hD hS ls (lv_sub hl [2, 3, 4, 5, 6, 7, 8, 9, 10, 11, 12, 13, 1, 0] rfl)
        · have h := (if_pos c114).symm.trans h
          refine lv_aload hx hb dL_same_328 (lv_at hl 4 rfl) ?_
          refine lv_iconst (v := 2) hx hb dL_same_330 (by decide) ?_
          refine lv_iload hx hb dL_same_331 (lv_at hl 13 rfl) ?_
          refine lv_imul hx hb dL_same_333 ?_
          obtain ⟨ni115, h⟩ := ifn h
          refine va_iald hx hb hK.1 hP 2 0 rfl rfl ni115 dL_same_334 ?_
          refine lv_iload hx hb dL_same_335 (lv_at hl 11 rfl) ?_
          refine lv_aload_n hx hb dL_same_337 rfl (lv_at hl 3 rfl) ?_
          obtain ⟨q116, e117, h⟩ := ob h
          refine fr_ir (M := (arrW cyI ak 24 kev)) (va_runS (As := [.int (bov (2 * y15).toNatClampNeg), .int y11, .ref ak]) (rest := [.int y14]) ⟨hx, hb, hml, hown, hts⟩ (mL_under l dC dI cyI cyO cyL ak kev (bov (2 * y15).toNatClampNeg) y11 _ q116 e117) (va_cwS 3 hts (gS ml_L_53 st_L_under in_L co_L_under) rfl rfl rfl (by decide +kernel) ⟨Nat.le_of_ble_eq_true rfl, Nat.le_of_ble_eq_true rfl⟩) (cP_S hK hP hD [1] rfl rfl) rfl rfl hl.1 rfl (lv_room (Nat.le_of_ble_eq_true rfl)) dL_same_338 ⟨Nat.zero_le _, Nat.zero_le _⟩) hP hD hS hA [1] rfl (fun H locs hP hS => ?_)
          refine lv_if_eq (tgt := 351) hx hb dL_same_341 (by decide) (fun c118 => ?_) (fun c118 => ?_)
          · have h := (if_pos c118).symm.trans h
            refine lv_iconst (v := 0) hx hb dL_same_351 (by decide) ?_
            refine lv_ior hx hb dL_same_352 ?_
            refine lv_istore (lv' := [(14, .int (y14 ||| 0)), (0, .ref (ad 0)), (1, .int y1), (2, .ref aq), (3, .ref ak), (4, .ref ab), (5, .ref aw), (6, .ref ao), (7, .int y7), (8, .int y8), (9, .int y9), (10, .int y10), (11, .int y11), (15, .int y15)]) hx hb dL_same_353 hl (by decide) rfl (fun ls hl => ?_)
            refine lv_iinc (v := (y15 + 1)) (lv' := [(15, .int (y15 + 1)), (14, .int (y14 ||| 0)), (0, .ref (ad 0)), (1, .int y1), (2, .ref aq), (3, .ref ak), (4, .ref ab), (5, .ref aw), (6, .ref ao), (7, .int y7), (8, .int y8), (9, .int y9), (10, .int y10), (11, .int y11)]) hx hb dL_same_355 hl (k := 13) rfl rfl (by decide) rfl (fun ls hl => ?_)
            refine lv_goto (tgt := 305) hx hb dL_same_358 (by decide) ?_
            exact ih qv kev bov wrv opv cs y1 y7 y8 y9 y10 y11 (y14 ||| 0) (y15 + 1) h _ _ hP hD hS ls (lv_sub hl [2, 3, 4, 5, 6, 7, 8, 9, 10, 11, 12, 13, 1, 0] rfl)
          · have h := (if_neg c118).symm.trans h
            refine lv_iconst (v := 1) hx hb dL_same_344 (by decide) ?_
            refine lv_iload hx hb dL_same_345 (lv_at hl 13 rfl) ?_
            refine lv_ishl hx hb dL_same_347 ?_
            refine lv_goto (tgt := 352) hx hb dL_same_348 (by decide) ?_
            refine lv_ior hx hb dL_same_352 ?_
            refine lv_istore (lv' := [(14, .int (y14 ||| (1 <<< (y15 &&& 31)))), (0, .ref (ad 0)), (1, .int y1), (2, .ref aq), (3, .ref ak), (4, .ref ab), (5, .ref aw), (6, .ref ao), (7, .int y7), (8, .int y8), (9, .int y9), (10, .int y10), (11, .int y11), (15, .int y15)]) hx hb dL_same_353 hl (by decide) rfl (fun ls hl => ?_)
            refine lv_iinc (v := (y15 + 1)) (lv' := [(15, .int (y15 + 1)), (14, .int (y14 ||| (1 <<< (y15 &&& 31)))), (0, .ref (ad 0)), (1, .int y1), (2, .ref aq), (3, .ref ak), (4, .ref ab), (5, .ref aw), (6, .ref ao), (7, .int y7), (8, .int y8), (9, .int y9), (10, .int y10), (11, .int y11)]) hx hb dL_same_355 hl (k := 13) rfl rfl (by decide) rfl (fun ls hl => ?_)
            refine lv_goto (tgt := 305) hx hb dL_same_358 (by decide) ?_
            exact ih qv kev bov wrv opv cs y1 y7 y8 y9 y10 y11 (y14 ||| (1 <<< (y15 &&& 31))) (y15 + 1) h _ _ hP hD hS ls (lv_sub hl [2, 3, 4, 5, 6, 7, 8, 9, 10, 11, 12, 13, 1, 0] rfl)
  have kB247 : ∀ (k15 : (Nat → Int32) → (Nat → Int32) → (Nat → Int32) → (Nat → Int32) → (Nat → Int64) → CS → Int32 → Int32 → Int32 → Int32 → Int32 → Int32 → Option (Int32 × (Nat → Int64) × (CS))) (hk15 : ∀ (qv : Nat → Int32) (kev : Nat → Int32) (bov : Nat → Int32) (wrv : Nat → Int32) (opv : Nat → Int64) (cs : CS) (y1 : Int32) (y7 : Int32) (y8 : Int32) (y9 : Int32) (y10 : Int32) (y11 : Int32), k15 qv kev bov wrv opv cs y1 y7 y8 y9 y10 y11 = some res → ∀ (H : Heap) (locs : List Loc), va_P (dC, dI) vwCl (((arrW cyI aq 4 qv) ++ (arrW cyI ak 24 kev) ++ (arrW cyI ab 12 bov) ++ (arrW cyI aw 64 wrv) ++ (larrW cyL ao 2 opv)) ++ mainC cyI cyO cyL ad had cs) H → va_D A (((arrW cyI aq 4 qv) ++ (arrW cyI ak 24 kev) ++ (arrW cyI ab 12 bov) ++ (arrW cyI aw 64 wrv) ++ (larrW cyL ao 2 opv)) ++ mainC cyI cyO cyL ad had cs) → va_S A s.heap H locs → ∀ ls : Array Slot, lv_has ls 17 [(0, .ref (ad 0)), (1, .int y1), (2, .ref aq), (3, .ref ak), (4, .ref ab), (5, .ref aw), (6, .ref ao), (7, .int y7), (8, .int y8), (9, .int y9), (10, .int y10), (11, .int y11)] → W p l e (headSpec (wsG yL_same cL_same 17 (some .boolean)) ({ frames := 7, cells := 0, slots := 0, locals := 162 })).room s m (([.ref (ad 0), .int x1, .ref aq, .ref ak, .ref ab, .ref aw, .ref ao] : List Value).toArray) below meth c H locs 0 0 (MQ below (cI dC dI res.1 (((arrW cyI aq 4 qv) ++ (arrW cyI ak 24 kev) ++ (arrW cyI ab 12 bov) ++ (arrW cyI aw 64 wrv) ++ (larrW cyL ao 2 res.2.1)) ++ mainC cyI cyO cyL ad had res.2.2) A) ([.ref (ad 0), .int x1, .ref aq, .ref ak, .ref ab, .ref aw, .ref ao] : List Value).toArray s 0 0 A) (F0 m 15 ls [])) (qv : Nat → Int32) (kev : Nat → Int32) (bov : Nat → Int32) (wrv : Nat → Int32) (opv : Nat → Int64) (cs : CS) (y1 : Int32) (y7 : Int32) (y8 : Int32) (y9 : Int32) (y10 : Int32) (y11 : Int32), fL_same_b247 k15 qv kev bov wrv opv cs y1 y7 y8 y9 y10 y11 = some res → ∀ (H : Heap) (locs : List Loc), va_P (dC, dI) vwCl (((arrW cyI aq 4 qv) ++ (arrW cyI ak 24 kev) ++ (arrW cyI ab 12 bov) ++ (arrW cyI aw 64 wrv) ++ (larrW cyL ao 2 opv)) ++ mainC cyI cyO cyL ad had cs) H → va_D A (((arrW cyI aq 4 qv) ++ (arrW cyI ak 24 kev) ++ (arrW cyI ab 12 bov) ++ (arrW cyI aw 64 wrv) ++ (larrW cyL ao 2 opv)) ++ mainC cyI cyO cyL ad had cs) → va_S A s.heap H locs → ∀ ls : Array Slot, lv_has ls 17 [(0, .ref (ad 0)), (1, .int y1), (2, .ref aq), (3, .ref ak), (4, .ref ab), (5, .ref aw), (6, .ref ao), (7, .int y7), (8, .int y8), (9, .int y9), (10, .int y10), (11, .int y11)] → W p l e (headSpec (wsG yL_same cL_same 17 (some .boolean)) ({ frames := 7, cells := 0, slots := 0, locals := 162 })).room s m (([.ref (ad 0), .int x1, .ref aq, .ref ak, .ref ab, .ref aw, .ref ao] : List Value).toArray) below meth c H locs 0 0 (MQ below (cI dC dI res.1 (((arrW cyI aq 4 qv) ++ (arrW cyI ak 24 kev) ++ (arrW cyI ab 12 bov) ++ (arrW cyI aw 64 wrv) ++ (larrW cyL ao 2 res.2.1)) ++ mainC cyI cyO cyL ad had res.2.2) A) ([.ref (ad 0), .int x1, .ref aq, .ref ak, .ref ab, .ref aw, .ref ao] : List Value).toArray s 0 0 A) (F0 m 247 ls []) := by
    intro k15 hk15 qv kev bov wrv opv cs y1 y7 y8 y9 y10 y11 h H locs hP hD hS ls hl
    unfold fL_same_b247 at h
    refine lv_iload hx hb dL_same_247 (lv_at hl 7 rfl) ?_
    refine lv_aload_n hx hb dL_same_249 rfl (lv_at hl 3 rfl) ?_
    refine lv_iconst (v := 4) hx hb dL_same_250 (by decide) ?_
    refine lv_iload hx hb dL_same_251 (lv_at hl 11 rfl) ?_
    refine lv_imul hx hb dL_same_253 ?_
    refine lv_iconst (v := 1) hx hb dL_same_254 (by decide) ?_
    refine lv_iadd hx hb dL_same_255 ?_
    obtain ⟨ni119, h⟩ := ifn h
    refine va_iald hx hb hK.1 hP 1 0 rfl rfl ni119 dL_same_256 ?_
    refine lv_iadd hx hb dL_same_257 ?_
    refine lv_istore (lv' := [(7, .int (y7 + (kev ((4 * y11) + 1).toNatClampNeg))), (0, .ref (ad 0)), (1, .int y1), (2, .ref aq), (3, .ref ak), (4, .ref ab), (5, .ref aw), (6, .ref ao), (8, .int y8), (9, .int y9), (10, .int y10), (11, .int y11)]) hx hb dL_same_258 hl (by decide) rfl (fun ls hl => ?_)
    refine lv_iload hx hb dL_same_260 (lv_at hl 8 rfl) ?_
    refine lv_aload_n hx hb dL_same_262 rfl (lv_at hl 4 rfl) ?_
    refine lv_iconst (v := 4) hx hb dL_same_263 (by decide) ?_
    refine lv_iload hx hb dL_same_264 (lv_at hl 11 rfl) ?_
    refine lv_imul hx hb dL_same_266 ?_
    refine lv_iconst (v := 1) hx hb dL_same_267 (by decide) ?_
    refine lv_iadd hx hb dL_same_268 ?_
    obtain ⟨ni120, h⟩ := ifn h
    refine va_iald hx hb hK.1 hP 1 0 rfl rfl ni120 dL_same_269 ?_
    refine lv_iconst (v := 1) hx hb dL_same_270 (by decide) ?_
    refine lv_icmp_ne (tgt := 295) hx hb dL_same_271 (by decide) (fun c121 => ?_) (fun c121 => ?_)
    · have h := (if_neg c121).symm.trans h
      refine lv_iconst (v := 0) hx hb dL_same_295 (by decide) ?_
      refine lv_ior hx hb dL_same_296 ?_
      refine lv_istore (lv' := [(8, .int (y8 ||| 0)), (7, .int (y7 + (kev ((4 * y11) + 1).toNatClampNeg))), (0, .ref (ad 0)), (1, .int y1), (2, .ref aq), (3, .ref ak), (4, .ref ab), (5, .ref aw), (6, .ref ao), (9, .int y9), (10, .int y10), (11, .int y11)]) hx hb dL_same_297 hl (by decide) rfl (fun ls hl => ?_)
      refine lv_iconst (v := 0) hx hb dL_same_299 (by decide) ?_
      refine lv_istore (lv' := [(14, .int 0), (8, .int (y8 ||| 0)), (7, .int (y7 + (kev ((4 * y11) + 1).toNatClampNeg))), (0, .ref (ad 0)), (1, .int y1), (2, .ref aq), (3, .ref ak), (4, .ref ab), (5, .ref aw), (6, .ref ao), (9, .int y9), (10, .int y10), (11, .int y11)]) hx hb dL_same_300 hl (by decide) rfl (fun ls hl => ?_)
      refine lv_iconst (v := 0) hx hb dL_same_302 (by decide) ?_
      refine lv_istore (lv' := [(15, .int 0), (14, .int 0), (8, .int (y8 ||| 0)), (7, .int (y7 + (kev ((4 * y11) + 1).toNatClampNeg))), (0, .ref (ad 0)), (1, .int y1), (2, .ref aq), (3, .ref ak), (4, .ref ab), (5, .ref aw), (6, .ref ao), (9, .int y9), (10, .int y10), (11, .int y11)]) hx hb dL_same_303 hl (by decide) rfl (fun ls hl => ?_)
      exact kB305 k15 hk15 6000 qv kev bov wrv opv cs y1 (y7 + (kev ((4 * y11) + 1).toNatClampNeg)) (y8 ||| 0) y9 y10 y11 0 0 h _ _ hP hD hS ls (lv_sub hl [4, 5, 6, 7, 8, 9, 10, 3, 2, 11, 12, 13, 1, 0] rfl)
    · have h := (if_pos c121).symm.trans h
      refine lv_aload_n hx hb dL_same_274 rfl (lv_at hl 4 rfl) ?_
      refine lv_iconst (v := 4) hx hb dL_same_275 (by decide) ?_
      refine lv_iload hx hb dL_same_276 (lv_at hl 11 rfl) ?_
      refine lv_imul hx hb dL_same_278 ?_
      refine lv_iconst (v := 3) hx hb dL_same_279 (by decide) ?_
      refine lv_iadd hx hb dL_same_280 ?_
      obtain ⟨ni122, h⟩ := ifn h
      refine va_iald hx hb hK.1 hP 1 0 rfl rfl ni122 dL_same_281 ?_
      refine lv_aload_n hx hb dL_same_282 rfl (lv_at hl 3 rfl) ?_
      refine lv_iconst (v := 0) hx hb dL_same_283 (by decide) ?_
      obtain ⟨ni123, h⟩ := ifn h
      refine va_iald hx hb hK.1 hP 0 0 rfl rfl ni123 dL_same_284 ?_
      refine lv_icmp_lt (tgt := 295) hx hb dL_same_285 (by decide) (fun c124 => ?_) (fun c124 => ?_)
      · have h := (if_pos c124).symm.trans h
        refine lv_iconst (v := 0) hx hb dL_same_295 (by decide) ?_
        refine lv_ior hx hb dL_same_296 ?_
        refine lv_istore (lv' := [(8, .int (y8 ||| 0)), (7, .int (y7 + (kev ((4 * y11) + 1).toNatClampNeg))), (0, .ref (ad 0)), (1, .int y1), (2, .ref aq), (3, .ref ak), (4, .ref ab), (5, .ref aw), (6, .ref ao), (9, .int y9), (10, .int y10), (11, .int y11)]) hx hb dL_same_297 hl (by decide) rfl (fun ls hl => ?_)
        refine lv_iconst (v := 0) hx hb dL_same_299 (by decide) ?_
        refine lv_istore (lv' := [(14, .int 0), (8, .int (y8 ||| 0)), (7, .int (y7 + (kev ((4 * y11) + 1).toNatClampNeg))), (0, .ref (ad 0)), (1, .int y1), (2, .ref aq), (3, .ref ak), (4, .ref ab), (5, .ref aw), (6, .ref ao), (9, .int y9), (10, .int y10), (11, .int y11)]) hx hb dL_same_300 hl (by decide) rfl (fun ls hl => ?_)
        refine lv_iconst (v := 0) hx hb dL_same_302 (by decide) ?_
        refine lv_istore (lv' := [(15, .int 0), (14, .int 0), (8, .int (y8 ||| 0)), (7, .int (y7 + (kev ((4 * y11) + 1).toNatClampNeg))), (0, .ref (ad 0)), (1, .int y1), (2, .ref aq), (3, .ref ak), (4, .ref ab), (5, .ref aw), (6, .ref ao), (9, .int y9), (10, .int y10), (11, .int y11)]) hx hb dL_same_303 hl (by decide) rfl (fun ls hl => ?_)
        exact kB305 k15 hk15 6000 qv kev bov wrv opv cs y1 (y7 + (kev ((4 * y11) + 1).toNatClampNeg)) (y8 ||| 0) y9 y10 y11 0 0 h _ _ hP hD hS ls (lv_sub hl [4, 5, 6, 7, 8, 9, 10, 3, 2, 11, 12, 13, 1, 0] rfl)
      · have h := (if_neg c124).symm.trans h
        refine lv_iconst (v := 1) hx hb dL_same_288 (by decide) ?_
        refine lv_iload hx hb dL_same_289 (lv_at hl 11 rfl) ?_
        refine lv_ishl hx hb dL_same_291 ?_
        refine lv_goto (tgt := 296) hx hb dL_same_292 (by decide) ?_
        refine lv_ior hx hb dL_same_296 ?_
        refine lv_istore (lv' := [(8, .int (y8 ||| (1 <<< (y11 &&& 31)))), (7, .int (y7 + (kev ((4 * y11) + 1).toNatClampNeg))), (0, .ref (ad 0)), (1, .int y1), (2, .ref aq), (3, .ref ak), (4, .ref ab), (5, .ref aw), (6, .ref ao), (9, .int y9), (10, .int y10), (11, .int y11)]) hx hb dL_same_297 hl (by decide) rfl (fun ls hl => ?_)
        refine lv_iconst (v := 0) hx hb dL_same_299 (by decide) ?_
        refine lv_istore (lv' := [(14, .int 0), (8, .int (y8 ||| (1 <<< (y11 &&& 31)))), (7, .int (y7 + (kev ((4 * y11) + 1).toNatClampNeg))), (0, .ref (ad 0)), (1, .int y1), (2, .ref aq), (3, .ref ak), (4, .ref ab), (5, .ref aw), (6, .ref ao), (9, .int y9), (10, .int y10), (11, .int y11)]) hx hb dL_same_300 hl (by decide) rfl (fun ls hl => ?_)
        refine lv_iconst (v := 0) hx hb dL_same_302 (by decide) ?_
        refine lv_istore (lv' := [(15, .int 0), (14, .int 0), (8, .int (y8 ||| (1 <<< (y11 &&& 31)))), (7, .int (y7 + (kev ((4 * y11) + 1).toNatClampNeg))), (0, .ref (ad 0)), (1, .int y1), (2, .ref aq), (3, .ref ak), (4, .ref ab), (5, .ref aw), (6, .ref ao), (9, .int y9), (10, .int y10), (11, .int y11)]) hx hb dL_same_303 hl (by decide) rfl (fun ls hl => ?_)
        exact kB305 k15 hk15 6000 qv kev bov wrv opv cs y1 (y7 + (kev ((4 * y11) + 1).toNatClampNeg)) (y8 ||| (1 <<< (y11 &&& 31))) y9 y10 y11 0 0 h _ _ hP hD hS ls (lv_sub hl [4, 5, 6, 7, 8, 9, 10, 3, 2, 11, 12, 13, 1, 0] rfl)
  have kB164 : ∀ (k15 : (Nat → Int32) → (Nat → Int32) → (Nat → Int32) → (Nat → Int32) → (Nat → Int64) → CS → Int32 → Int32 → Int32 → Int32 → Int32 → Int32 → Option (Int32 × (Nat → Int64) × (CS))) (hk15 : ∀ (qv : Nat → Int32) (kev : Nat → Int32) (bov : Nat → Int32) (wrv : Nat → Int32) (opv : Nat → Int64) (cs : CS) (y1 : Int32) (y7 : Int32) (y8 : Int32) (y9 : Int32) (y10 : Int32) (y11 : Int32), k15 qv kev bov wrv opv cs y1 y7 y8 y9 y10 y11 = some res → ∀ (H : Heap) (locs : List Loc), va_P (dC, dI) vwCl (((arrW cyI aq 4 qv) ++ (arrW cyI ak 24 kev) ++ (arrW cyI ab 12 bov) ++ (arrW cyI aw 64 wrv) ++ (larrW cyL ao 2 opv)) ++ mainC cyI cyO cyL ad had cs) H → va_D A (((arrW cyI aq 4 qv) ++ (arrW cyI ak 24 kev) ++ (arrW cyI ab 12 bov) ++ (arrW cyI aw 64 wrv) ++ (larrW cyL ao 2 opv)) ++ mainC cyI cyO cyL ad had cs) → va_S A s.heap H locs → ∀ ls : Array Slot, lv_has ls 17 [(0, .ref (ad 0)), (1, .int y1), (2, .ref aq), (3, .ref ak), (4, .ref ab), (5, .ref aw), (6, .ref ao), (7, .int y7), (8, .int y8), (9, .int y9), (10, .int y10), (11, .int y11)] → W p l e (headSpec (wsG yL_same cL_same 17 (some .boolean)) ({ frames := 7, cells := 0, slots := 0, locals := 162 })).room s m (([.ref (ad 0), .int x1, .ref aq, .ref ak, .ref ab, .ref aw, .ref ao] : List Value).toArray) below meth c H locs 0 0 (MQ below (cI dC dI res.1 (((arrW cyI aq 4 qv) ++ (arrW cyI ak 24 kev) ++ (arrW cyI ab 12 bov) ++ (arrW cyI aw 64 wrv) ++ (larrW cyL ao 2 res.2.1)) ++ mainC cyI cyO cyL ad had res.2.2) A) ([.ref (ad 0), .int x1, .ref aq, .ref ak, .ref ab, .ref aw, .ref ao] : List Value).toArray s 0 0 A) (F0 m 15 ls [])) (qv : Nat → Int32) (kev : Nat → Int32) (bov : Nat → Int32) (wrv : Nat → Int32) (opv : Nat → Int64) (cs : CS) (y1 : Int32) (y7 : Int32) (y8 : Int32) (y9 : Int32) (y10 : Int32) (y11 : Int32) (y12 : Int32) (y13 : Int32) (z0 : Int32) (z1 : Int32), fL_same_b164 k15 qv kev bov wrv opv cs y1 y7 y8 y9 y10 y11 y12 y13 z0 z1 = some res → ∀ (H : Heap) (locs : List Loc), va_P (dC, dI) vwCl (((arrW cyI aq 4 qv) ++ (arrW cyI ak 24 kev) ++ (arrW cyI ab 12 bov) ++ (arrW cyI aw 64 wrv) ++ (larrW cyL ao 2 opv)) ++ mainC cyI cyO cyL ad had cs) H → va_D A (((arrW cyI aq 4 qv) ++ (arrW cyI ak 24 kev) ++ (arrW cyI ab 12 bov) ++ (arrW cyI aw 64 wrv) ++ (larrW cyL ao 2 opv)) ++ mainC cyI cyO cyL ad had cs) → va_S A s.heap H locs → ∀ ls : Array Slot, lv_has ls 17 [(0, .ref (ad 0)), (1, .int y1), (2, .ref aq), (3, .ref ak), (4, .ref ab), (5, .ref aw), (6, .ref ao), (7, .int y7), (8, .int y8), (9, .int y9), (10, .int y10), (11, .int y11), (12, .int y12), (13, .int y13)] → W p l e (headSpec (wsG yL_same cL_same 17 (some .boolean)) ({ frames := 7, cells := 0, slots := 0, locals := 162 })).room s m (([.ref (ad 0), .int x1, .ref aq, .ref ak, .ref ab, .ref aw, .ref ao] : List Value).toArray) below meth c H locs 0 0 (MQ below (cI dC dI res.1 (((arrW cyI aq 4 qv) ++ (arrW cyI ak 24 kev) ++ (arrW cyI ab 12 bov) ++ (arrW cyI aw 64 wrv) ++ (larrW cyL ao 2 res.2.1)) ++ mainC cyI cyO cyL ad had res.2.2) A) ([.ref (ad 0), .int x1, .ref aq, .ref ak, .ref ab, .ref aw, .ref ao] : List Value).toArray s 0 0 A) (F0 m 164 ls [.int z1, .int z0]) := by
    intro k15 hk15 qv kev bov wrv opv cs y1 y7 y8 y9 y10 y11 y12 y13 z0 z1 h H locs hP hD hS ls hl
    unfold fL_same_b164 at h
    refine lv_icmp_ne (tgt := 245) hx hb dL_same_164 (by decide) (fun c125 => ?_) (fun c125 => ?_)
    · have h := (if_neg c125).symm.trans h
      refine lv_iconst (v := 0) hx hb dL_same_245 (by decide) ?_
      obtain rfl := Option.some.inj h
      exact e_z (v := 0) hx hb hr hlocks rfl hP hS dL_same_246
    · have h := (if_pos c125).symm.trans h
      refine lv_aload_n hx hb dL_same_167 rfl (lv_at hl 0 rfl) ?_
      refine lv_iload hx hb dL_same_168 (lv_at hl 11 rfl) ?_
      refine lv_iconst (v := 1) hx hb dL_same_170 (by decide) ?_
      obtain ⟨q126, e127, h⟩ := ob h
      refine fr_iG (M := mainC cyI cyO cyL ad had cs) (M' := mainC cyI cyO cyL ad had q126.2) (L' := (((arrW cyI aq 4 qv) ++ (arrW cyI ak 24 kev) ++ (arrW cyI ab 12 bov) ++ (arrW cyI aw 64 wrv) ++ (larrW cyL ao 2 opv)) ++ mainC cyI cyO cyL ad had q126.2)) (F := ((arrW cyI aq 4 qv) ++ (arrW cyI ak 24 kev) ++ (arrW cyI ab 12 bov) ++ (arrW cyI aw 64 wrv) ++ (larrW cyL ao 2 opv))) (va_runV (As := [.int y11, .int 1]) (rest := []) ⟨hx, hb, hml, hown, hts⟩ (uX7_ofKey l dC dI cyI cyO cyL ad had cs q126.2 y11 1 q126.1 e127 _) (cwV 2 hts (gV ml_L_47 im_X7_ofKey se_X7_ofKey in_X7 co_X7_ofKey) rfl rfl rfl (by decide +kernel) ⟨Nat.le_of_ble_eq_true rfl, Nat.le_of_ble_eq_true rfl⟩) (cP_VG hK hP hD List.perm_append_comm 0 rfl rfl) rfl rfl hl.1 rfl (lv_room (Nat.le_of_ble_eq_true rfl)) dL_same_171 ⟨Nat.zero_le _, Nat.zero_le _⟩) hP hD hS hA List.perm_append_comm List.perm_append_comm mainC_ads (fun H locs hP hD hS => ?_)
      refine lv_aload_n hx hb dL_same_174 rfl (lv_at hl 3 rfl) ?_
      refine lv_iconst (v := 4) hx hb dL_same_175 (by decide) ?_
      refine lv_iload hx hb dL_same_176 (lv_at hl 11 rfl) ?_
      refine lv_imul hx hb dL_same_178 ?_
      refine lv_iconst (v := 1) hx hb dL_same_179 (by decide) ?_
      refine lv_iadd hx hb dL_same_180 ?_
      obtain ⟨ni128, h⟩ := ifn h
      refine va_iald hx hb hK.1 hP 1 0 rfl rfl ni128 dL_same_181 ?_
      refine lv_icmp_ne (tgt := 245) hx hb dL_same_182 (by decide) (fun c129 => ?_) (fun c129 => ?_)
      · have h := (if_neg c129).symm.trans h
        refine lv_iconst (v := 0) hx hb dL_same_245 (by decide) ?_
        obtain rfl := Option.some.inj h
        exact e_z (v := 0) hx hb hr hlocks rfl hP hS dL_same_246
      · have h := (if_pos c129).symm.trans h
        refine lv_aload_n hx hb dL_same_185 rfl (lv_at hl 0 rfl) ?_
        refine lv_iload hx hb dL_same_186 (lv_at hl 11 rfl) ?_
        refine lv_iconst (v := 2) hx hb dL_same_188 (by decide) ?_
        obtain ⟨q130, e131, h⟩ := ob h
        refine fr_iG (M := mainC cyI cyO cyL ad had q126.2) (M' := mainC cyI cyO cyL ad had q130.2) (L' := (((arrW cyI aq 4 qv) ++ (arrW cyI ak 24 kev) ++ (arrW cyI ab 12 bov) ++ (arrW cyI aw 64 wrv) ++ (larrW cyL ao 2 opv)) ++ mainC cyI cyO cyL ad had q130.2)) (F := ((arrW cyI aq 4 qv) ++ (arrW cyI ak 24 kev) ++ (arrW cyI ab 12 bov) ++ (arrW cyI aw 64 wrv) ++ (larrW cyL ao 2 opv))) (va_runV (As := [.int y11, .int 2]) (rest := []) ⟨hx, hb, hml, hown, hts⟩ (uX7_ofKey l dC dI cyI cyO cyL ad had q126.2 q130.2 y11 2 q130.1 e131 _) (cwV 2 hts (gV ml_L_47 im_X7_ofKey se_X7_ofKey in_X7 co_X7_ofKey) rfl rfl rfl (by decide +kernel) ⟨Nat.le_of_ble_eq_true rfl, Nat.le_of_ble_eq_true rfl⟩) (cP_VG hK hP hD List.perm_append_comm 0 rfl rfl) rfl rfl hl.1 rfl (lv_room (Nat.le_of_ble_eq_true rfl)) dL_same_189 ⟨Nat.zero_le _, Nat.zero_le _⟩) hP hD hS hA List.perm_append_comm List.perm_append_comm mainC_ads (fun H locs hP hD hS => ?_)
        refine lv_aload_n hx hb dL_same_192 rfl (lv_at hl 3 rfl) ?_
        refine lv_iconst (v := 4) hx hb dL_same_193 (by decide) ?_
        refine lv_iload hx hb dL_same_194 (lv_at hl 11 rfl) ?_
        refine lv_imul hx hb dL_same_196 ?_
        refine lv_iconst (v := 2) hx hb dL_same_197 (by decide) ?_
        refine lv_iadd hx hb dL_same_198 ?_
        obtain ⟨ni132, h⟩ := ifn h
        refine va_iald hx hb hK.1 hP 1 0 rfl rfl ni132 dL_same_199 ?_
        refine lv_icmp_ne (tgt := 245) hx hb dL_same_200 (by decide) (fun c133 => ?_) (fun c133 => ?_)
        · have h := (if_neg c133).symm.trans h
          refine lv_iconst (v := 0) hx hb dL_same_245 (by decide) ?_
          obtain rfl := Option.some.inj h
          exact e_z (v := 0) hx hb hr hlocks rfl hP hS dL_same_246
        · have h := (if_pos c133).symm.trans h
          refine lv_aload_n hx hb dL_same_203 rfl (lv_at hl 0 rfl) ?_
          refine lv_iload hx hb dL_same_204 (lv_at hl 11 rfl) ?_
          refine lv_iconst (v := 3) hx hb dL_same_206 (by decide) ?_
          obtain ⟨q134, e135, h⟩ := ob h
          refine fr_iG (M := mainC cyI cyO cyL ad had q130.2) (M' := mainC cyI cyO cyL ad had q134.2) (L' := (((arrW cyI aq 4 qv) ++ (arrW cyI ak 24 kev) ++ (arrW cyI ab 12 bov) ++ (arrW cyI aw 64 wrv) ++ (larrW cyL ao 2 opv)) ++ mainC cyI cyO cyL ad had q134.2)) (F := ((arrW cyI aq 4 qv) ++ (arrW cyI ak 24 kev) ++ (arrW cyI ab 12 bov) ++ (arrW cyI aw 64 wrv) ++ (larrW cyL ao 2 opv))) (va_runV (As := [.int y11, .int 3]) (rest := []) ⟨hx, hb, hml, hown, hts⟩ (uX7_ofKey l dC dI cyI cyO cyL ad had q130.2 q134.2 y11 3 q134.1 e135 _) (cwV 2 hts (gV ml_L_47 im_X7_ofKey se_X7_ofKey in_X7 co_X7_ofKey) rfl rfl rfl (by decide +kernel) ⟨Nat.le_of_ble_eq_true rfl, Nat.le_of_ble_eq_true rfl⟩) (cP_VG hK hP hD List.perm_append_comm 0 rfl rfl) rfl rfl hl.1 rfl (lv_room (Nat.le_of_ble_eq_true rfl)) dL_same_207 ⟨Nat.zero_le _, Nat.zero_le _⟩) hP hD hS hA List.perm_append_comm List.perm_append_comm mainC_ads (fun H locs hP hD hS => ?_)
          refine lv_aload_n hx hb dL_same_210 rfl (lv_at hl 3 rfl) ?_
          refine lv_iconst (v := 4) hx hb dL_same_211 (by decide) ?_
          refine lv_iload hx hb dL_same_212 (lv_at hl 11 rfl) ?_
          refine lv_imul hx hb dL_same_214 ?_
          refine lv_iconst (v := 3) hx hb dL_same_215 (by decide) ?_
          refine lv_iadd hx hb dL_same_216 ?_
          obtain ⟨ni136, h⟩ := ifn h
          refine va_iald hx hb hK.1 hP 1 0 rfl rfl ni136 dL_same_217 ?_
          refine lv_icmp_ne (tgt := 245) hx hb dL_same_218 (by decide) (fun c137 => ?_) (fun c137 => ?_)
          · have h := (if_neg c137).symm.trans h
            refine lv_iconst (v := 0) hx hb dL_same_245 (by decide) ?_
            obtain rfl := Option.some.inj h
            exact e_z (v := 0) hx hb hr hlocks rfl hP hS dL_same_246
          · have h := (if_pos c137).symm.trans h
            refine lv_aload_n hx hb dL_same_221 rfl (lv_at hl 0 rfl) ?_
            refine lv_iload hx hb dL_same_222 (lv_at hl 11 rfl) ?_
            refine lv_iconst (v := 4) hx hb dL_same_224 (by decide) ?_
            obtain ⟨q138, e139, h⟩ := ob h
            refine fr_iG (M := mainC cyI cyO cyL ad had q134.2) (M' := mainC cyI cyO cyL ad had q138.2) (L' := (((arrW cyI aq 4 qv) ++ (arrW cyI ak 24 kev) ++ (arrW cyI ab 12 bov) ++ (arrW cyI aw 64 wrv) ++ (larrW cyL ao 2 opv)) ++ mainC cyI cyO cyL ad had q138.2)) (F := ((arrW cyI aq 4 qv) ++ (arrW cyI ak 24 kev) ++ (arrW cyI ab 12 bov) ++ (arrW cyI aw 64 wrv) ++ (larrW cyL ao 2 opv))) (va_runV (As := [.int y11, .int 4]) (rest := []) ⟨hx, hb, hml, hown, hts⟩ (uX7_ofKey l dC dI cyI cyO cyL ad had q134.2 q138.2 y11 4 q138.1 e139 _) (cwV 2 hts (gV ml_L_47 im_X7_ofKey se_X7_ofKey in_X7 co_X7_ofKey) rfl rfl rfl (by decide +kernel) ⟨Nat.le_of_ble_eq_true rfl, Nat.le_of_ble_eq_true rfl⟩) (cP_VG hK hP hD List.perm_append_comm 0 rfl rfl) rfl rfl hl.1 rfl (lv_room (Nat.le_of_ble_eq_true rfl)) dL_same_225 ⟨Nat.zero_le _, Nat.zero_le _⟩) hP hD hS hA List.perm_append_comm List.perm_append_comm mainC_ads (fun H locs hP hD hS => ?_)
            refine lv_iload hx hb dL_same_228 (lv_at hl 12 rfl) ?_
            refine lv_icmp_ne (tgt := 245) hx hb dL_same_230 (by decide) (fun c140 => ?_) (fun c140 => ?_)
            · have h := (if_neg c140).symm.trans h
              refine lv_iconst (v := 0) hx hb dL_same_245 (by decide) ?_
              obtain rfl := Option.some.inj h
              exact e_z (v := 0) hx hb hr hlocks rfl hP hS dL_same_246
            · have h := (if_pos c140).symm.trans h
              refine lv_aload_n hx hb dL_same_233 rfl (lv_at hl 0 rfl) ?_
              refine lv_iload hx hb dL_same_234 (lv_at hl 11 rfl) ?_
              refine lv_iconst (v := 5) hx hb dL_same_236 (by decide) ?_
              obtain ⟨q141, e142, h⟩ := ob h
              refine fr_iG (M := mainC cyI cyO cyL ad had q138.2) (M' := mainC cyI cyO cyL ad had q141.2) (L' := (((arrW cyI aq 4 qv) ++ (arrW cyI ak 24 kev) ++ (arrW cyI ab 12 bov) ++ (arrW cyI aw 64 wrv) ++ (larrW cyL ao 2 opv)) ++ mainC cyI cyO cyL ad had q141.2)) (F := ((arrW cyI aq 4 qv) ++ (arrW cyI ak 24 kev) ++ (arrW cyI ab 12 bov) ++ (arrW cyI aw 64 wrv) ++ (larrW cyL ao 2 opv))) (va_runV (As := [.int y11, .int 5]) (rest := []) ⟨hx, hb, hml, hown, hts⟩ (uX7_ofKey l dC dI cyI cyO cyL ad had q138.2 q141.2 y11 5 q141.1 e142 _) (cwV 2 hts (gV ml_L_47 im_X7_ofKey se_X7_ofKey in_X7 co_X7_ofKey) rfl rfl rfl (by decide +kernel) ⟨Nat.le_of_ble_eq_true rfl, Nat.le_of_ble_eq_true rfl⟩) (cP_VG hK hP hD List.perm_append_comm 0 rfl rfl) rfl rfl hl.1 rfl (lv_room (Nat.le_of_ble_eq_true rfl)) dL_same_237 ⟨Nat.zero_le _, Nat.zero_le _⟩) hP hD hS hA List.perm_append_comm List.perm_append_comm mainC_ads (fun H locs hP hD hS => ?_)
              refine lv_iload hx hb dL_same_240 (lv_at hl 13 rfl) ?_
              refine lv_icmp_eq (tgt := 247) hx hb dL_same_242 (by decide) (fun c143 => ?_) (fun c143 => ?_)
              · have h := (if_pos c143).symm.trans h
                exact kB247 k15 hk15 qv kev bov wrv opv q141.2 y1 y7 y8 y9 y10 y11 h _ _ hP hD hS ls (lv_sub hl [0, 1, 2, 3, 4, 5, 6, 7, 8, 9, 10, 11] rfl)
              · have h := (if_neg c143).symm.trans h
                refine lv_iconst (v := 0) hx hb dL_same_245 (by decide) ?_
                obtain rfl := Option.some.inj h
                exact e_z (v := 0) hx hb hr hlocks rfl hP hS dL_same_246
  have kB137 : ∀ (k15 : (Nat → Int32) → (Nat → Int32) → (Nat → Int32) → (Nat → Int32) → (Nat → Int64) → CS → Int32 → Int32 → Int32 → Int32 → Int32 → Int32 → Option (Int32 × (Nat → Int64) × (CS))) (hk15 : ∀ (qv : Nat → Int32) (kev : Nat → Int32) (bov : Nat → Int32) (wrv : Nat → Int32) (opv : Nat → Int64) (cs : CS) (y1 : Int32) (y7 : Int32) (y8 : Int32) (y9 : Int32) (y10 : Int32) (y11 : Int32), k15 qv kev bov wrv opv cs y1 y7 y8 y9 y10 y11 = some res → ∀ (H : Heap) (locs : List Loc), va_P (dC, dI) vwCl (((arrW cyI aq 4 qv) ++ (arrW cyI ak 24 kev) ++ (arrW cyI ab 12 bov) ++ (arrW cyI aw 64 wrv) ++ (larrW cyL ao 2 opv)) ++ mainC cyI cyO cyL ad had cs) H → va_D A (((arrW cyI aq 4 qv) ++ (arrW cyI ak 24 kev) ++ (arrW cyI ab 12 bov) ++ (arrW cyI aw 64 wrv) ++ (larrW cyL ao 2 opv)) ++ mainC cyI cyO cyL ad had cs) → va_S A s.heap H locs → ∀ ls : Array Slot, lv_has ls 17 [(0, .ref (ad 0)), (1, .int y1), (2, .ref aq), (3, .ref ak), (4, .ref ab), (5, .ref aw), (6, .ref ao), (7, .int y7), (8, .int y8), (9, .int y9), (10, .int y10), (11, .int y11)] → W p l e (headSpec (wsG yL_same cL_same 17 (some .boolean)) ({ frames := 7, cells := 0, slots := 0, locals := 162 })).room s m (([.ref (ad 0), .int x1, .ref aq, .ref ak, .ref ab, .ref aw, .ref ao] : List Value).toArray) below meth c H locs 0 0 (MQ below (cI dC dI res.1 (((arrW cyI aq 4 qv) ++ (arrW cyI ak 24 kev) ++ (arrW cyI ab 12 bov) ++ (arrW cyI aw 64 wrv) ++ (larrW cyL ao 2 res.2.1)) ++ mainC cyI cyO cyL ad had res.2.2) A) ([.ref (ad 0), .int x1, .ref aq, .ref ak, .ref ab, .ref aw, .ref ao] : List Value).toArray s 0 0 A) (F0 m 15 ls [])) (qv : Nat → Int32) (kev : Nat → Int32) (bov : Nat → Int32) (wrv : Nat → Int32) (opv : Nat → Int64) (cs : CS) (y1 : Int32) (y7 : Int32) (y8 : Int32) (y9 : Int32) (y10 : Int32) (y11 : Int32) (y12 : Int32) (y13 : Int32), fL_same_b137 k15 qv kev bov wrv opv cs y1 y7 y8 y9 y10 y11 y12 y13 = some res → ∀ (H : Heap) (locs : List Loc), va_P (dC, dI) vwCl (((arrW cyI aq 4 qv) ++ (arrW cyI ak 24 kev) ++ (arrW cyI ab 12 bov) ++ (arrW cyI aw 64 wrv) ++ (larrW cyL ao 2 opv)) ++ mainC cyI cyO cyL ad had cs) H → va_D A (((arrW cyI aq 4 qv) ++ (arrW cyI ak 24 kev) ++ (arrW cyI ab 12 bov) ++ (arrW cyI aw 64 wrv) ++ (larrW cyL ao 2 opv)) ++ mainC cyI cyO cyL ad had cs) → va_S A s.heap H locs → ∀ ls : Array Slot, lv_has ls 17 [(0, .ref (ad 0)), (1, .int y1), (2, .ref aq), (3, .ref ak), (4, .ref ab), (5, .ref aw), (6, .ref ao), (7, .int y7), (8, .int y8), (9, .int y9), (10, .int y10), (11, .int y11), (12, .int y12), (13, .int y13)] → W p l e (headSpec (wsG yL_same cL_same 17 (some .boolean)) ({ frames := 7, cells := 0, slots := 0, locals := 162 })).room s m (([.ref (ad 0), .int x1, .ref aq, .ref ak, .ref ab, .ref aw, .ref ao] : List Value).toArray) below meth c H locs 0 0 (MQ below (cI dC dI res.1 (((arrW cyI aq 4 qv) ++ (arrW cyI ak 24 kev) ++ (arrW cyI ab 12 bov) ++ (arrW cyI aw 64 wrv) ++ (larrW cyL ao 2 res.2.1)) ++ mainC cyI cyO cyL ad had res.2.2) A) ([.ref (ad 0), .int x1, .ref aq, .ref ak, .ref ab, .ref aw, .ref ao] : List Value).toArray s 0 0 A) (F0 m 137 ls []) := by
    intro k15 hk15 qv kev bov wrv opv cs y1 y7 y8 y9 y10 y11 y12 y13 h H locs hP hD hS ls hl
    unfold fL_same_b137 at h
    refine lv_aload_n hx hb dL_same_137 rfl (lv_at hl 0 rfl) ?_
    refine lv_iload hx hb dL_same_138 (lv_at hl 11 rfl) ?_
    refine lv_iconst (v := 0) hx hb dL_same_140 (by decide) ?_
    obtain ⟨q144, e145, h⟩ := ob h
    refine fr_iG (M := mainC cyI cyO cyL ad had cs) (M' := mainC cyI cyO cyL ad had q144.2) (L' := (((arrW cyI aq 4 qv) ++ (arrW cyI ak 24 kev) ++ (arrW cyI ab 12 bov) ++ (arrW cyI aw 64 wrv) ++ (larrW cyL ao 2 opv)) ++ mainC cyI cyO cyL ad had q144.2)) (F := ((arrW cyI aq 4 qv) ++ (arrW cyI ak 24 kev) ++ (arrW cyI ab 12 bov) ++ (arrW cyI aw 64 wrv) ++ (larrW cyL ao 2 opv))) (va_runV (As := [.int y11, .int 0]) (rest := []) ⟨hx, hb, hml, hown, hts⟩ (uX7_ofKey l dC dI cyI cyO cyL ad had cs q144.2 y11 0 q144.1 e145 _) (cwV 2 hts (gV ml_L_47 im_X7_ofKey se_X7_ofKey in_X7 co_X7_ofKey) rfl rfl rfl (by decide +kernel) ⟨Nat.le_of_ble_eq_true rfl, Nat.le_of_ble_eq_true rfl⟩) (cP_VG hK hP hD List.perm_append_comm 0 rfl rfl) rfl rfl hl.1 rfl (lv_room (Nat.le_of_ble_eq_true rfl)) dL_same_141 ⟨Nat.zero_le _, Nat.zero_le _⟩) hP hD hS hA List.perm_append_comm List.perm_append_comm mainC_ads (fun H locs hP hD hS => ?_)
    refine lv_aload_n hx hb dL_same_144 rfl (lv_at hl 3 rfl) ?_
    refine lv_iconst (v := 4) hx hb dL_same_145 (by decide) ?_
    refine lv_iload hx hb dL_same_146 (lv_at hl 11 rfl) ?_
    refine lv_imul hx hb dL_same_148 ?_
    obtain ⟨ni146, h⟩ := ifn h
    refine va_iald hx hb hK.1 hP 1 0 rfl rfl ni146 dL_same_149 ?_
    refine lv_if_ge (tgt := 158) hx hb dL_same_150 (by decide) (fun c147 => ?_) (fun c147 => ?_)
    · have h := (if_pos c147).symm.trans h
      refine lv_aload_n hx hb dL_same_158 rfl (lv_at hl 3 rfl) ?_
      refine lv_iconst (v := 4) hx hb dL_same_159 (by decide) ?_
      refine lv_iload hx hb dL_same_160 (lv_at hl 11 rfl) ?_
      refine lv_imul hx hb dL_same_162 ?_
      obtain ⟨ni148, h⟩ := ifn h
      refine va_iald hx hb hK.1 hP 1 0 rfl rfl ni148 dL_same_163 ?_
      exact kB164 k15 hk15 qv kev bov wrv opv q144.2 y1 y7 y8 y9 y10 y11 y12 y13 q144.1 (kev (4 * y11).toNatClampNeg) h _ _ hP hD hS ls (lv_sub hl [0, 1, 2, 3, 4, 5, 6, 7, 8, 9, 10, 11, 12, 13] rfl)
    · have h := (if_neg c147).symm.trans h
      refine lv_bipush (v := (-6)) hx hb dL_same_153 (by decide) ?_
      refine lv_goto (tgt := 164) hx hb dL_same_155 (by decide) ?_
      exact kB164 k15 hk15 qv kev bov wrv opv q144.2 y1 y7 y8 y9 y10 y11 y12 y13 q144.1 (-6) h _ _ hP hD hS ls (lv_sub hl [0, 1, 2, 3, 4, 5, 6, 7, 8, 9, 10, 11, 12, 13] rfl)
  have kB85 : ∀ (k15 : (Nat → Int32) → (Nat → Int32) → (Nat → Int32) → (Nat → Int32) → (Nat → Int64) → CS → Int32 → Int32 → Int32 → Int32 → Int32 → Int32 → Option (Int32 × (Nat → Int64) × (CS))) (hk15 : ∀ (qv : Nat → Int32) (kev : Nat → Int32) (bov : Nat → Int32) (wrv : Nat → Int32) (opv : Nat → Int64) (cs : CS) (y1 : Int32) (y7 : Int32) (y8 : Int32) (y9 : Int32) (y10 : Int32) (y11 : Int32), k15 qv kev bov wrv opv cs y1 y7 y8 y9 y10 y11 = some res → ∀ (H : Heap) (locs : List Loc), va_P (dC, dI) vwCl (((arrW cyI aq 4 qv) ++ (arrW cyI ak 24 kev) ++ (arrW cyI ab 12 bov) ++ (arrW cyI aw 64 wrv) ++ (larrW cyL ao 2 opv)) ++ mainC cyI cyO cyL ad had cs) H → va_D A (((arrW cyI aq 4 qv) ++ (arrW cyI ak 24 kev) ++ (arrW cyI ab 12 bov) ++ (arrW cyI aw 64 wrv) ++ (larrW cyL ao 2 opv)) ++ mainC cyI cyO cyL ad had cs) → va_S A s.heap H locs → ∀ ls : Array Slot, lv_has ls 17 [(0, .ref (ad 0)), (1, .int y1), (2, .ref aq), (3, .ref ak), (4, .ref ab), (5, .ref aw), (6, .ref ao), (7, .int y7), (8, .int y8), (9, .int y9), (10, .int y10), (11, .int y11)] → W p l e (headSpec (wsG yL_same cL_same 17 (some .boolean)) ({ frames := 7, cells := 0, slots := 0, locals := 162 })).room s m (([.ref (ad 0), .int x1, .ref aq, .ref ak, .ref ab, .ref aw, .ref ao] : List Value).toArray) below meth c H locs 0 0 (MQ below (cI dC dI res.1 (((arrW cyI aq 4 qv) ++ (arrW cyI ak 24 kev) ++ (arrW cyI ab 12 bov) ++ (arrW cyI aw 64 wrv) ++ (larrW cyL ao 2 res.2.1)) ++ mainC cyI cyO cyL ad had res.2.2) A) ([.ref (ad 0), .int x1, .ref aq, .ref ak, .ref ab, .ref aw, .ref ao] : List Value).toArray s 0 0 A) (F0 m 15 ls [])) (fuel : Nat) (qv : Nat → Int32) (kev : Nat → Int32) (bov : Nat → Int32) (wrv : Nat → Int32) (opv : Nat → Int64) (cs : CS) (y1 : Int32) (y7 : Int32) (y8 : Int32) (y9 : Int32) (y10 : Int32) (y11 : Int32) (y12 : Int32) (y13 : Int32) (y14 : Int32), fL_same_b85 k15 fuel qv kev bov wrv opv cs y1 y7 y8 y9 y10 y11 y12 y13 y14 = some res → ∀ (H : Heap) (locs : List Loc), va_P (dC, dI) vwCl (((arrW cyI aq 4 qv) ++ (arrW cyI ak 24 kev) ++ (arrW cyI ab 12 bov) ++ (arrW cyI aw 64 wrv) ++ (larrW cyL ao 2 opv)) ++ mainC cyI cyO cyL ad had cs) H → va_D A (((arrW cyI aq 4 qv) ++ (arrW cyI ak 24 kev) ++ (arrW cyI ab 12 bov) ++ (arrW cyI aw 64 wrv) ++ (larrW cyL ao 2 opv)) ++ mainC cyI cyO cyL ad had cs) → va_S A s.heap H locs → ∀ ls : Array Slot, lv_has ls 17 [(0, .ref (ad 0)), (1, .int y1), (2, .ref aq), (3, .ref ak), (4, .ref ab), (5, .ref aw), (6, .ref ao), (7, .int y7), (8, .int y8), (9, .int y9), (10, .int y10), (11, .int y11), (12, .int y12), (13, .int y13), (14, .int y14)] → W p l e (headSpec (wsG yL_same cL_same 17 (some .boolean)) ({ frames := 7, cells := 0, slots := 0, locals := 162 })).room s m (([.ref (ad 0), .int x1, .ref aq, .ref ak, .ref ab, .ref aw, .ref ao] : List Value).toArray) below meth c H locs 0 0 (MQ below (cI dC dI res.1 (((arrW cyI aq 4 qv) ++ (arrW cyI ak 24 kev) ++ (arrW cyI ab 12 bov) ++ (arrW cyI aw 64 wrv) ++ (larrW cyL ao 2 res.2.1)) ++ mainC cyI cyO cyL ad had res.2.2) A) ([.ref (ad 0), .int x1, .ref aq, .ref ak, .ref ab, .ref aw, .ref ao] : List Value).toArray s 0 0 A) (F0 m 85 ls []) := by
    intro k15 hk15 fuel
    induction fuel with
    | zero => intro qv kev bov wrv opv cs y1 y7 y8 y9 y10 y11 y12 y13 y14 h; rw [fL_same_b85] at h; cases h
    | succ fuel ih =>
      intro qv kev bov wrv opv cs y1 y7 y8 y9 y10 y11 y12 y13 y14 h H locs hP hD hS ls hl
      rw [fL_same_b85] at h
      refine lv_iload hx hb dL_same_85 (lv_at hl 14 rfl) ?_
      refine lv_aload_n hx hb dL_same_87 rfl (lv_at hl 2 rfl) ?_
      refine lv_iconst (v := 2) hx hb dL_same_88 (by decide) ?_
      obtain ⟨ni149, h⟩ := ifn h
      refine va_iald hx hb hK.1 hP 0 0 rfl rfl ni149 dL_same_89 ?_
      refine lv_icmp_ge (tgt := 137) hx hb dL_same_90 (by decide) (fun c150 => ?_) (fun c150 => ?_)
      · have h := (if_pos c150).symm.trans h
        exact kB137 k15 hk15 qv kev bov wrv opv cs y1 y7 y8 y9 y10 y11 y12 y13 h _ _ hP hD hS ls (lv_sub hl [0, 1, 2, 3, 4, 5, 6, 7, 8, 9, 10, 11, 12, 13] rfl)
      · have h := (if_neg c150).symm.trans h
        refine lv_iload hx hb dL_same_93 (lv_at hl 13 rfl) ?_
        refine lv_aload hx hb dL_same_95 (lv_at hl 4 rfl) ?_
        refine lv_iconst (v := 2) hx hb dL_same_97 (by decide) ?_
        refine lv_iload hx hb dL_same_98 (lv_at hl 14 rfl) ?_
        refine lv_imul hx hb dL_same_100 ?_
        obtain ⟨ni151, h⟩ := ifn h
        refine va_iald hx hb hK.1 hP 2 0 rfl rfl ni151 dL_same_101 ?_
        refine lv_iload hx hb dL_same_102 (lv_at hl 11 rfl) ?_
        refine lv_icmp_ne (tgt := 127) hx hb dL_same_104 (by decide) (fun c152 => ?_) (fun c152 => ?_)
        · have h := (if_neg c152).symm.trans h
          refine lv_iconst (v := 0) hx hb dL_same_127 (by decide) ?_
          refine lv_ior hx hb dL_same_128 ?_
          refine lv_istore (lv' := [(13, .int (y13 ||| 0)), (0, .ref (ad 0)), (1, .int y1), (2, .ref aq), (3, .ref ak), (4, .ref ab), (5, .ref aw), (6, .ref ao), (7, .int y7), (8, .int y8), (9, .int y9), (10, .int y10), (11, .int y11), (12, .int y12), (14, .int y14)]) hx hb dL_same_129 hl (by decide) rfl (fun ls hl => ?_)
          refine lv_iinc (v := (y14 + 1)) (lv' := [(14, .int (y14 + 1)), (13, .int (y13 ||| 0)), (0, .ref (ad 0)), (1, .int y1), (2, .ref aq), (3, .ref ak), (4, .ref ab), (5, .ref aw), (6, .ref ao), (7, .int y7), (8, .int y8), (9, .int y9), (10, .int y10), (11, .int y11), (12, .int y12)]) hx hb dL_same_131 hl (k := 14) rfl rfl (by decide) rfl (fun ls hl => ?_)
          refine lv_goto (tgt := 85) hx hb dL_same_134 (by decide) ?_
          exact ih qv kev bov wrv opv cs y1 y7 y8 y9 y10 y11 y12 (y13 ||| 0) (y14 + 1) h _ _ hP hD hS ls (lv_sub hl [2, 3, 4, 5, 6, 7, 8, 9, 10, 11, 12, 13, 14, 1, 0] rfl)
        · have h := (if_pos c152).symm.trans h
          refine lv_aload hx hb dL_same_107 (lv_at hl 4 rfl) ?_
          refine lv_iconst (v := 2) hx hb dL_same_109 (by decide) ?_
          refine lv_iload hx hb dL_same_110 (lv_at hl 14 rfl) ?_
          refine lv_imul hx hb dL_same_112 ?_
          refine lv_iconst (v := 1) hx hb dL_same_113 (by decide) ?_
          refine lv_iadd hx hb dL_same_114 ?_
          obtain ⟨ni153, h⟩ := ifn h
          refine va_iald hx hb hK.1 hP 2 0 rfl rfl ni153 dL_same_115 ?_
          refine lv_iconst (v := 1) hx hb dL_same_116 (by decide) ?_
          refine lv_icmp_ne (tgt := 127) hx hb dL_same_117 (by decide) (fun c154 => ?_) (fun c154 => ?_)
          · have h := (if_neg c154).symm.trans h
            refine lv_iconst (v := 0) hx hb dL_same_127 (by decide) ?_
            refine lv_ior hx hb dL_same_128 ?_
            refine lv_istore (lv' := [(13, .int (y13 ||| 0)), (0, .ref (ad 0)), (1, .int y1), (2, .ref aq), (3, .ref ak), (4, .ref ab), (5, .ref aw), (6, .ref ao), (7, .int y7), (8, .int y8), (9, .int y9), (10, .int y10), (11, .int y11), (12, .int y12), (14, .int y14)]) hx hb dL_same_129 hl (by decide) rfl (fun ls hl => ?_)
            refine lv_iinc (v := (y14 + 1)) (lv' := [(14, .int (y14 + 1)), (13, .int (y13 ||| 0)), (0, .ref (ad 0)), (1, .int y1), (2, .ref aq), (3, .ref ak), (4, .ref ab), (5, .ref aw), (6, .ref ao), (7, .int y7), (8, .int y8), (9, .int y9), (10, .int y10), (11, .int y11), (12, .int y12)]) hx hb dL_same_131 hl (k := 14) rfl rfl (by decide) rfl (fun ls hl => ?_)
            refine lv_goto (tgt := 85) hx hb dL_same_134 (by decide) ?_
            exact ih qv kev bov wrv opv cs y1 y7 y8 y9 y10 y11 y12 (y13 ||| 0) (y14 + 1) h _ _ hP hD hS ls (lv_sub hl [2, 3, 4, 5, 6, 7, 8, 9, 10, 11, 12, 13, 14, 1, 0] rfl)
          · have h := (if_pos c154).symm.trans h
            refine lv_iconst (v := 1) hx hb dL_same_120 (by decide) ?_
            refine lv_iload hx hb dL_same_121 (lv_at hl 14 rfl) ?_
            refine lv_ishl hx hb dL_same_123 ?_
            refine lv_goto (tgt := 128) hx hb dL_same_124 (by decide) ?_
            refine lv_ior hx hb dL_same_128 ?_
            refine lv_istore (lv' := [(13, .int (y13 ||| (1 <<< (y14 &&& 31)))), (0, .ref (ad 0)), (1, .int y1), (2, .ref aq), (3, .ref ak), (4, .ref ab), (5, .ref aw), (6, .ref ao), (7, .int y7), (8, .int y8), (9, .int y9), (10, .int y10), (11, .int y11), (12, .int y12), (14, .int y14)]) hx hb dL_same_129 hl (by decide) rfl (fun ls hl => ?_)
            refine lv_iinc (v := (y14 + 1)) (lv' := [(14, .int (y14 + 1)), (13, .int (y13 ||| (1 <<< (y14 &&& 31)))), (0, .ref (ad 0)), (1, .int y1), (2, .ref aq), (3, .ref ak), (4, .ref ab), (5, .ref aw), (6, .ref ao), (7, .int y7), (8, .int y8), (9, .int y9), (10, .int y10), (11, .int y11), (12, .int y12)]) hx hb dL_same_131 hl (k := 14) rfl rfl (by decide) rfl (fun ls hl => ?_)
            refine lv_goto (tgt := 85) hx hb dL_same_134 (by decide) ?_
            exact ih qv kev bov wrv opv cs y1 y7 y8 y9 y10 y11 y12 (y13 ||| (1 <<< (y14 &&& 31))) (y14 + 1) h _ _ hP hD hS ls (lv_sub hl [2, 3, 4, 5, 6, 7, 8, 9, 10, 11, 12, 13, 14, 1, 0] rfl)
  have kB32 : ∀ (k15 : (Nat → Int32) → (Nat → Int32) → (Nat → Int32) → (Nat → Int32) → (Nat → Int64) → CS → Int32 → Int32 → Int32 → Int32 → Int32 → Int32 → Option (Int32 × (Nat → Int64) × (CS))) (hk15 : ∀ (qv : Nat → Int32) (kev : Nat → Int32) (bov : Nat → Int32) (wrv : Nat → Int32) (opv : Nat → Int64) (cs : CS) (y1 : Int32) (y7 : Int32) (y8 : Int32) (y9 : Int32) (y10 : Int32) (y11 : Int32), k15 qv kev bov wrv opv cs y1 y7 y8 y9 y10 y11 = some res → ∀ (H : Heap) (locs : List Loc), va_P (dC, dI) vwCl (((arrW cyI aq 4 qv) ++ (arrW cyI ak 24 kev) ++ (arrW cyI ab 12 bov) ++ (arrW cyI aw 64 wrv) ++ (larrW cyL ao 2 opv)) ++ mainC cyI cyO cyL ad had cs) H → va_D A (((arrW cyI aq 4 qv) ++ (arrW cyI ak 24 kev) ++ (arrW cyI ab 12 bov) ++ (arrW cyI aw 64 wrv) ++ (larrW cyL ao 2 opv)) ++ mainC cyI cyO cyL ad had cs) → va_S A s.heap H locs → ∀ ls : Array Slot, lv_has ls 17 [(0, .ref (ad 0)), (1, .int y1), (2, .ref aq), (3, .ref ak), (4, .ref ab), (5, .ref aw), (6, .ref ao), (7, .int y7), (8, .int y8), (9, .int y9), (10, .int y10), (11, .int y11)] → W p l e (headSpec (wsG yL_same cL_same 17 (some .boolean)) ({ frames := 7, cells := 0, slots := 0, locals := 162 })).room s m (([.ref (ad 0), .int x1, .ref aq, .ref ak, .ref ab, .ref aw, .ref ao] : List Value).toArray) below meth c H locs 0 0 (MQ below (cI dC dI res.1 (((arrW cyI aq 4 qv) ++ (arrW cyI ak 24 kev) ++ (arrW cyI ab 12 bov) ++ (arrW cyI aw 64 wrv) ++ (larrW cyL ao 2 res.2.1)) ++ mainC cyI cyO cyL ad had res.2.2) A) ([.ref (ad 0), .int x1, .ref aq, .ref ak, .ref ab, .ref aw, .ref ao] : List Value).toArray s 0 0 A) (F0 m 15 ls [])) (fuel : Nat) (qv : Nat → Int32) (kev : Nat → Int32) (bov : Nat → Int32) (wrv : Nat → Int32) (opv : Nat → Int64) (cs : CS) (y1 : Int32) (y7 : Int32) (y8 : Int32) (y9 : Int32) (y10 : Int32) (y11 : Int32) (y12 : Int32) (y13 : Int32) (y14 : Int32), fL_same_b32 k15 fuel qv kev bov wrv opv cs y1 y7 y8 y9 y10 y11 y12 y13 y14 = some res → ∀ (H : Heap) (locs : List Loc), va_P (dC, dI) vwCl (((arrW cyI aq 4 qv) ++ (arrW cyI ak 24 kev) ++ (arrW cyI ab 12 bov) ++ (arrW cyI aw 64 wrv) ++ (larrW cyL ao 2 opv)) ++ mainC cyI cyO cyL ad had cs) H → va_D A (((arrW cyI aq 4 qv) ++ (arrW cyI ak 24 kev) ++ (arrW cyI ab 12 bov) ++ (arrW cyI aw 64 wrv) ++ (larrW cyL ao 2 opv)) ++ mainC cyI cyO cyL ad had cs) → va_S A s.heap H locs → ∀ ls : Array Slot, lv_has ls 17 [(0, .ref (ad 0)), (1, .int y1), (2, .ref aq), (3, .ref ak), (4, .ref ab), (5, .ref aw), (6, .ref ao), (7, .int y7), (8, .int y8), (9, .int y9), (10, .int y10), (11, .int y11), (12, .int y12), (13, .int y13), (14, .int y14)] → W p l e (headSpec (wsG yL_same cL_same 17 (some .boolean)) ({ frames := 7, cells := 0, slots := 0, locals := 162 })).room s m (([.ref (ad 0), .int x1, .ref aq, .ref ak, .ref ab, .ref aw, .ref ao] : List Value).toArray) below meth c H locs 0 0 (MQ below (cI dC dI res.1 (((arrW cyI aq 4 qv) ++ (arrW cyI ak 24 kev) ++ (arrW cyI ab 12 bov) ++ (arrW cyI aw 64 wrv) ++ (larrW cyL ao 2 res.2.1)) ++ mainC cyI cyO cyL ad had res.2.2) A) ([.ref (ad 0), .int x1, .ref aq, .ref ak, .ref ab, .ref aw, .ref ao] : List Value).toArray s 0 0 A) (F0 m 32 ls []) := by
    intro k15 hk15 fuel
    induction fuel with
    | zero => intro qv kev bov wrv opv cs y1 y7 y8 y9 y10 y11 y12 y13 y14 h; rw [fL_same_b32] at h; cases h
    | succ fuel ih =>
      intro qv kev bov wrv opv cs y1 y7 y8 y9 y10 y11 y12 y13 y14 h H locs hP hD hS ls hl
      rw [fL_same_b32] at h
      refine lv_iload hx hb dL_same_32 (lv_at hl 14 rfl) ?_
      refine lv_aload_n hx hb dL_same_34 rfl (lv_at hl 2 rfl) ?_
      refine lv_iconst (v := 1) hx hb dL_same_35 (by decide) ?_
      obtain ⟨ni155, h⟩ := ifn h
      refine va_iald hx hb hK.1 hP 0 0 rfl rfl ni155 dL_same_36 ?_
      refine lv_icmp_ge (tgt := 82) hx hb dL_same_37 (by decide) (fun c156 => ?_) (fun c156 => ?_)
      · have h := (if_pos c156).symm.trans h
        refine lv_iconst (v := 0) hx hb dL_same_82 (by decide) ?_
        refine lv_istore (lv' := [(14, .int 0), (0, .ref (ad 0)), (1, .int y1), (2, .ref aq), (3, .ref ak), (4, .ref ab), (5, .ref aw), (6, .ref ao), (7, .int y7), (8, .int y8), (9, .int y9), (10, .int y10), (11, .int y11), (12, .int y12), (13, .int y13)]) hx hb dL_same_83 hl (by decide) rfl (fun ls hl => ?_)
        exact kB85 k15 hk15 6000 qv kev bov wrv opv cs y1 y7 y8 y9 y10 y11 y12 y13 0 h _ _ hP hD hS ls (lv_sub hl [1, 2, 3, 4, 5, 6, 7, 8, 9, 10, 11, 12, 13, 14, 0] rfl)
      · have h := (if_neg c156).symm.trans h
        refine lv_iload hx hb dL_same_40 (lv_at hl 12 rfl) ?_
        refine lv_aload_n hx hb dL_same_42 rfl (lv_at hl 3 rfl) ?_
        refine lv_iconst (v := 4) hx hb dL_same_43 (by decide) ?_
        refine lv_iload hx hb dL_same_44 (lv_at hl 14 rfl) ?_
        refine lv_imul hx hb dL_same_46 ?_
        obtain ⟨ni157, h⟩ := ifn h
        refine va_iald hx hb hK.1 hP 1 0 rfl rfl ni157 dL_same_47 ?_
        refine lv_iload hx hb dL_same_48 (lv_at hl 11 rfl) ?_
        refine lv_icmp_ne (tgt := 72) hx hb dL_same_50 (by decide) (fun c158 => ?_) (fun c158 => ?_)
        · have h := (if_neg c158).symm.trans h
          refine lv_iconst (v := 0) hx hb dL_same_72 (by decide) ?_
          refine lv_ior hx hb dL_same_73 ?_
          refine lv_istore (lv' := [(12, .int (y12 ||| 0)), (0, .ref (ad 0)), (1, .int y1), (2, .ref aq), (3, .ref ak), (4, .ref ab), (5, .ref aw), (6, .ref ao), (7, .int y7), (8, .int y8), (9, .int y9), (10, .int y10), (11, .int y11), (13, .int y13), (14, .int y14)]) hx hb dL_same_74 hl (by decide) rfl (fun ls hl => ?_)
          refine lv_iinc (v := (y14 + 1)) (lv' := [(14, .int (y14 + 1)), (12, .int (y12 ||| 0)), (0, .ref (ad 0)), (1, .int y1), (2, .ref aq), (3, .ref ak), (4, .ref ab), (5, .ref aw), (6, .ref ao), (7, .int y7), (8, .int y8), (9, .int y9), (10, .int y10), (11, .int y11), (13, .int y13)]) hx hb dL_same_76 hl (k := 14) rfl rfl (by decide) rfl (fun ls hl => ?_)
          refine lv_goto (tgt := 32) hx hb dL_same_79 (by decide) ?_
          exact ih qv kev bov wrv opv cs y1 y7 y8 y9 y10 y11 (y12 ||| 0) y13 (y14 + 1) h _ _ hP hD hS ls (lv_sub hl [2, 3, 4, 5, 6, 7, 8, 9, 10, 11, 12, 13, 1, 14, 0] rfl)
        · have h := (if_pos c158).symm.trans h
          refine lv_aload_n hx hb dL_same_53 rfl (lv_at hl 3 rfl) ?_
          refine lv_iconst (v := 4) hx hb dL_same_54 (by decide) ?_
          refine lv_iload hx hb dL_same_55 (lv_at hl 14 rfl) ?_
          refine lv_imul hx hb dL_same_57 ?_
          refine lv_iconst (v := 1) hx hb dL_same_58 (by decide) ?_
          refine lv_iadd hx hb dL_same_59 ?_
          obtain ⟨ni159, h⟩ := ifn h
          refine va_iald hx hb hK.1 hP 1 0 rfl rfl ni159 dL_same_60 ?_
          refine lv_iconst (v := 1) hx hb dL_same_61 (by decide) ?_
          refine lv_icmp_ne (tgt := 72) hx hb dL_same_62 (by decide) (fun c160 => ?_) (fun c160 => ?_)
          · have h := (if_neg c160).symm.trans h
            refine lv_iconst (v := 0) hx hb dL_same_72 (by decide) ?_
            refine lv_ior hx hb dL_same_73 ?_
            refine lv_istore (lv' := [(12, .int (y12 ||| 0)), (0, .ref (ad 0)), (1, .int y1), (2, .ref aq), (3, .ref ak), (4, .ref ab), (5, .ref aw), (6, .ref ao), (7, .int y7), (8, .int y8), (9, .int y9), (10, .int y10), (11, .int y11), (13, .int y13), (14, .int y14)]) hx hb dL_same_74 hl (by decide) rfl (fun ls hl => ?_)
            refine lv_iinc (v := (y14 + 1)) (lv' := [(14, .int (y14 + 1)), (12, .int (y12 ||| 0)), (0, .ref (ad 0)), (1, .int y1), (2, .ref aq), (3, .ref ak), (4, .ref ab), (5, .ref aw), (6, .ref ao), (7, .int y7), (8, .int y8), (9, .int y9), (10, .int y10), (11, .int y11), (13, .int y13)]) hx hb dL_same_76 hl (k := 14) rfl rfl (by decide) rfl (fun ls hl => ?_)
            refine lv_goto (tgt := 32) hx hb dL_same_79 (by decide) ?_
            exact ih qv kev bov wrv opv cs y1 y7 y8 y9 y10 y11 (y12 ||| 0) y13 (y14 + 1) h _ _ hP hD hS ls (lv_sub hl [2, 3, 4, 5, 6, 7, 8, 9, 10, 11, 12, 13, 1, 14, 0] rfl)
          · have h := (if_pos c160).symm.trans h
            refine lv_iconst (v := 1) hx hb dL_same_65 (by decide) ?_
            refine lv_iload hx hb dL_same_66 (lv_at hl 14 rfl) ?_
            refine lv_ishl hx hb dL_same_68 ?_
            refine lv_goto (tgt := 73) hx hb dL_same_69 (by decide) ?_
            refine lv_ior hx hb dL_same_73 ?_
            refine lv_istore (lv' := [(12, .int (y12 ||| (1 <<< (y14 &&& 31)))), (0, .ref (ad 0)), (1, .int y1), (2, .ref aq), (3, .ref ak), (4, .ref ab), (5, .ref aw), (6, .ref ao), (7, .int y7), (8, .int y8), (9, .int y9), (10, .int y10), (11, .int y11), (13, .int y13), (14, .int y14)]) hx hb dL_same_74 hl (by decide) rfl (fun ls hl => ?_)
            refine lv_iinc (v := (y14 + 1)) (lv' := [(14, .int (y14 + 1)), (12, .int (y12 ||| (1 <<< (y14 &&& 31)))), (0, .ref (ad 0)), (1, .int y1), (2, .ref aq), (3, .ref ak), (4, .ref ab), (5, .ref aw), (6, .ref ao), (7, .int y7), (8, .int y8), (9, .int y9), (10, .int y10), (11, .int y11), (13, .int y13)]) hx hb dL_same_76 hl (k := 14) rfl rfl (by decide) rfl (fun ls hl => ?_)
            refine lv_goto (tgt := 32) hx hb dL_same_79 (by decide) ?_
            exact ih qv kev bov wrv opv cs y1 y7 y8 y9 y10 y11 (y12 ||| (1 <<< (y14 &&& 31))) y13 (y14 + 1) h _ _ hP hD hS ls (lv_sub hl [2, 3, 4, 5, 6, 7, 8, 9, 10, 11, 12, 13, 1, 14, 0] rfl)
  have kB15 : ∀ (fuel : Nat) (qv : Nat → Int32) (kev : Nat → Int32) (bov : Nat → Int32) (wrv : Nat → Int32) (opv : Nat → Int64) (cs : CS) (y1 : Int32) (y7 : Int32) (y8 : Int32) (y9 : Int32) (y10 : Int32) (y11 : Int32), fL_same_b15 fuel qv kev bov wrv opv cs y1 y7 y8 y9 y10 y11 = some res → ∀ (H : Heap) (locs : List Loc), va_P (dC, dI) vwCl (((arrW cyI aq 4 qv) ++ (arrW cyI ak 24 kev) ++ (arrW cyI ab 12 bov) ++ (arrW cyI aw 64 wrv) ++ (larrW cyL ao 2 opv)) ++ mainC cyI cyO cyL ad had cs) H → va_D A (((arrW cyI aq 4 qv) ++ (arrW cyI ak 24 kev) ++ (arrW cyI ab 12 bov) ++ (arrW cyI aw 64 wrv) ++ (larrW cyL ao 2 opv)) ++ mainC cyI cyO cyL ad had cs) → va_S A s.heap H locs → ∀ ls : Array Slot, lv_has ls 17 [(0, .ref (ad 0)), (1, .int y1), (2, .ref aq), (3, .ref ak), (4, .ref ab), (5, .ref aw), (6, .ref ao), (7, .int y7), (8, .int y8), (9, .int y9), (10, .int y10), (11, .int y11)] → W p l e (headSpec (wsG yL_same cL_same 17 (some .boolean)) ({ frames := 7, cells := 0, slots := 0, locals := 162 })).room s m (([.ref (ad 0), .int x1, .ref aq, .ref ak, .ref ab, .ref aw, .ref ao] : List Value).toArray) below meth c H locs 0 0 (MQ below (cI dC dI res.1 (((arrW cyI aq 4 qv) ++ (arrW cyI ak 24 kev) ++ (arrW cyI ab 12 bov) ++ (arrW cyI aw 64 wrv) ++ (larrW cyL ao 2 res.2.1)) ++ mainC cyI cyO cyL ad had res.2.2) A) ([.ref (ad 0), .int x1, .ref aq, .ref ak, .ref ab, .ref aw, .ref ao] : List Value).toArray s 0 0 A) (F0 m 15 ls []) := by
    intro fuel
    induction fuel with
    | zero => intro qv kev bov wrv opv cs y1 y7 y8 y9 y10 y11 h; rw [fL_same_b15] at h; cases h
    | succ fuel ih =>
      intro qv kev bov wrv opv cs y1 y7 y8 y9 y10 y11 h H locs hP hD hS ls hl
      rw [fL_same_b15] at h
      refine lv_iload hx hb dL_same_15 (lv_at hl 11 rfl) ?_
      refine lv_aload_n hx hb dL_same_17 rfl (lv_at hl 2 rfl) ?_
      refine lv_iconst (v := 1) hx hb dL_same_18 (by decide) ?_
      obtain ⟨ni161, h⟩ := ifn h
      refine va_iald hx hb hK.1 hP 0 0 rfl rfl ni161 dL_same_19 ?_
      refine lv_icmp_ge (tgt := 530) hx hb dL_same_20 (by decide) (fun c162 => ?_) (fun c162 => ?_)
      · have h := (if_pos c162).symm.trans h
        exact kB530 qv kev bov wrv opv cs y1 y7 y8 y9 y10 h _ _ hP hD hS ls (lv_sub hl [0, 1, 2, 3, 4, 5, 6, 7, 8, 9, 10] rfl)
      · have h := (if_neg c162).symm.trans h
        refine lv_iconst (v := 0) hx hb dL_same_23 (by decide) ?_
        refine lv_istore (lv' := [(12, .int 0), (0, .ref (ad 0)), (1, .int y1), (2, .ref aq), (3, .ref ak), (4, .ref ab), (5, .ref aw), (6, .ref ao), (7, .int y7), (8, .int y8), (9, .int y9), (10, .int y10), (11, .int y11)]) hx hb dL_same_24 hl (by decide) rfl (fun ls hl => ?_)
        refine lv_iconst (v := 0) hx hb dL_same_26 (by decide) ?_
        refine lv_istore (lv' := [(13, .int 0), (12, .int 0), (0, .ref (ad 0)), (1, .int y1), (2, .ref aq), (3, .ref ak), (4, .ref ab), (5, .ref aw), (6, .ref ao), (7, .int y7), (8, .int y8), (9, .int y9), (10, .int y10), (11, .int y11)]) hx hb dL_same_27 hl (by decide) rfl (fun ls hl => ?_)
        refine lv_iconst (v := 0) hx hb dL_same_29 (by decide) ?_
        refine lv_istore (lv' := [(14, .int 0), (13, .int 0), (12, .int 0), (0, .ref (ad 0)), (1, .int y1), (2, .ref aq), (3, .ref ak), (4, .ref ab), (5, .ref aw), (6, .ref ao), (7, .int y7), (8, .int y8), (9, .int y9), (10, .int y10), (11, .int y11)]) hx hb dL_same_30 hl (by decide) rfl (fun ls hl => ?_)
        exact kB32 (fL_same_b15 fuel) ih 6000 qv kev bov wrv opv cs y1 y7 y8 y9 y10 y11 0 0 0 h _ _ hP hD hS ls (lv_sub hl [3, 4, 5, 6, 7, 8, 9, 10, 11, 12, 13, 14, 2, 1, 0] rfl)
  have hl := lv_entry ([.ref (ad 0), .int x1, .ref aq, .ref ak, .ref ab, .ref aw, .ref ao]) (n := 17) (Nat.le_of_ble_eq_true rfl)
  rw [lg_entry_eq]
  generalize (lg_sl ([.ref (ad 0), .int x1, .ref aq, .ref ak, .ref ab, .ref aw, .ref ao]) ++ List.replicate (17 - (lg_sl ([.ref (ad 0), .int x1, .ref aq, .ref ak, .ref ab, .ref aw, .ref ao])).length) Slot.unset).toArray = ls at hl ⊢
  have hl : lv_has ls 17 [(0, .ref (ad 0)), (1, .int x1), (2, .ref aq), (3, .ref ak), (4, .ref ab), (5, .ref aw), (6, .ref ao)] := hl
  unfold fL_same at h
  refine lv_iconst (v := 0) hx hb dL_same_0 (by decide) ?_
  refine lv_istore (lv' := [(7, .int 0), (0, .ref (ad 0)), (1, .int x1), (2, .ref aq), (3, .ref ak), (4, .ref ab), (5, .ref aw), (6, .ref ao)]) hx hb dL_same_1 hl (by decide) rfl (fun ls hl => ?_)
  refine lv_iconst (v := 0) hx hb dL_same_3 (by decide) ?_
  refine lv_istore (lv' := [(8, .int 0), (7, .int 0), (0, .ref (ad 0)), (1, .int x1), (2, .ref aq), (3, .ref ak), (4, .ref ab), (5, .ref aw), (6, .ref ao)]) hx hb dL_same_4 hl (by decide) rfl (fun ls hl => ?_)
  refine lv_iconst (v := 0) hx hb dL_same_6 (by decide) ?_
  refine lv_istore (lv' := [(9, .int 0), (8, .int 0), (7, .int 0), (0, .ref (ad 0)), (1, .int x1), (2, .ref aq), (3, .ref ak), (4, .ref ab), (5, .ref aw), (6, .ref ao)]) hx hb dL_same_7 hl (by decide) rfl (fun ls hl => ?_)
  refine lv_iconst (v := 0) hx hb dL_same_9 (by decide) ?_
  refine lv_istore (lv' := [(10, .int 0), (9, .int 0), (8, .int 0), (7, .int 0), (0, .ref (ad 0)), (1, .int x1), (2, .ref aq), (3, .ref ak), (4, .ref ab), (5, .ref aw), (6, .ref ao)]) hx hb dL_same_10 hl (by decide) rfl (fun ls hl => ?_)
  refine lv_iconst (v := 0) hx hb dL_same_12 (by decide) ?_
  refine lv_istore (lv' := [(11, .int 0), (10, .int 0), (9, .int 0), (8, .int 0), (7, .int 0), (0, .ref (ad 0)), (1, .int x1), (2, .ref aq), (3, .ref ak), (4, .ref ab), (5, .ref aw), (6, .ref ao)]) hx hb dL_same_13 hl (by decide) rfl (fun ls hl => ?_)
  exact kB15 6000 qv kev bov wrv opv cs x1 0 0 0 0 0 h _ _ hP hD hS ls (lv_sub hl [5, 6, 7, 8, 9, 10, 11, 4, 3, 2, 1, 0] rfl)
