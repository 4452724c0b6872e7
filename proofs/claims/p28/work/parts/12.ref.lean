/-! the same house in one row of numbers, as plain functions (no method of the claim) -/
noncomputable def fX8_moves_b3 (n : Nat) (n2 : Nat) : Nat → (Nat → Int32) → (Nat → Int32) → Int32 → Int32 → Int32 → Option ((Nat → Int32))
  | 0, _, _, _, _, _ => none
  | fuel + 1, cells, cells2, y1, y3, y4 =>
  (if 844 ≤ y4 then (some cells2) else (if (y1 + y4) < 0 ∨ n ≤ (y1 + y4).toNatClampNeg then none else (if (y3 + y4) < 0 ∨ n2 ≤ (y3 + y4).toNatClampNeg then none else fX8_moves_b3 n n2 fuel cells (upd cells2 (y3 + y4).toNatClampNeg (cells (y1 + y4).toNatClampNeg)) y1 y3 (y4 + 1))))
noncomputable def fX8_moves (n : Nat) (n2 : Nat) (cells : Nat → Int32) (cells2 : Nat → Int32) (x1 : Int32) (x3 : Int32) : Option ((Nat → Int32)) :=
  fX8_moves_b3 n n2 6000 cells cells2 x1 x3 0
noncomputable def fX8_within (x0 : Int32) (x1 : Int32) (x2 : Int32) : Int32 :=
  (if x0 < x1 then (0) else (if x2 < x0 then (0) else (1)))
noncomputable def fX8_record_b11 : Nat → (Nat → Int32) → (Nat → Int32) → Int32 → Int32 → Option ((Nat → Int32) × Int32)
  | 0, _, _, _, _ => none
  | fuel + 1, state, history, recorded, y1 =>
  (if 4220 ≤ y1 then ((fX8_moves 844 5064 state history 0 ((recorded - 1) * 844)).bind fun q2 => (some (q2, ((recorded - 1) + 1)))) else (if (y1 + 844) < 0 ∨ 5064 ≤ (y1 + 844).toNatClampNeg then none else (if y1 < 0 ∨ 5064 ≤ y1.toNatClampNeg then none else fX8_record_b11 fuel state (upd history y1.toNatClampNeg (history (y1 + 844).toNatClampNeg)) recorded (y1 + 1))))
noncomputable def fX8_record (state : Nat → Int32) (history : Nat → Int32) (recorded : Int32) : Option ((Nat → Int32) × Int32) :=
  (if recorded = 6 then fX8_record_b11 6000 state history recorded 0 else ((fX8_moves 844 5064 state history 0 (recorded * 844)).bind fun q7 => (some (q7, (recorded + 1)))))
noncomputable def fX8_keyPart (state : Nat → Int32) (x1 : Int32) (x2 : Int32) : Option (Int32) :=
  (if ((4 + (4 * x1)) + x2) < 0 ∨ 844 ≤ ((4 + (4 * x1)) + x2).toNatClampNeg then none else (some (state ((4 + (4 * x1)) + x2).toNatClampNeg)))
noncomputable def fX8_setKey (state : Nat → Int32) (x1 : Int32) (x2 : Int32) (x3 : Int32) : Option ((Nat → Int32)) :=
  (if ((4 + (4 * x1)) + x2) < 0 ∨ 844 ≤ ((4 + (4 * x1)) + x2).toNatClampNeg then none else (some (upd state ((4 + (4 * x1)) + x2).toNatClampNeg x3)))
noncomputable def fX8_boxPart (state : Nat → Int32) (x1 : Int32) (x2 : Int32) : Option (Int32) :=
  (if ((84 + (2 * x1)) + x2) < 0 ∨ 844 ≤ ((84 + (2 * x1)) + x2).toNatClampNeg then none else (some (state ((84 + (2 * x1)) + x2).toNatClampNeg)))
noncomputable def fX8_setBox (state : Nat → Int32) (x1 : Int32) (x2 : Int32) (x3 : Int32) : Option ((Nat → Int32)) :=
  (if ((84 + (2 * x1)) + x2) < 0 ∨ 844 ≤ ((84 + (2 * x1)) + x2).toNatClampNeg then none else (some (upd state ((84 + (2 * x1)) + x2).toNatClampNeg x3)))
noncomputable def fX8_wrapPart (state : Nat → Int32) (x1 : Int32) (x2 : Int32) : Option (Int32) :=
  (if ((124 + (6 * x1)) + x2) < 0 ∨ 844 ≤ ((124 + (6 * x1)) + x2).toNatClampNeg then none else (some (state ((124 + (6 * x1)) + x2).toNatClampNeg)))
noncomputable def fX8_setWrap (state : Nat → Int32) (x1 : Int32) (x2 : Int32) (x3 : Int32) : Option ((Nat → Int32)) :=
  (if ((124 + (6 * x1)) + x2) < 0 ∨ 844 ≤ ((124 + (6 * x1)) + x2).toNatClampNeg then none else (some (upd state ((124 + (6 * x1)) + x2).toNatClampNeg x3)))
noncomputable def fX8_isKey (state : Nat → Int32) (x1 : Int32) : Option (Int32) :=
  (if (1 : Int32) < 0 ∨ 844 ≤ (1 : Int32).toNatClampNeg then none else (some (fX8_within x1 0 ((state (1 : Int32).toNatClampNeg) - 1))))
noncomputable def fX8_isLiveKey (state : Nat → Int32) (x1 : Int32) : Option (Int32) :=
  ((fX8_isKey state x1).bind fun q1 => (if q1 = 0 then (some 0) else ((fX8_keyPart state x1 1).bind fun q4 => (if q4 = 1 then (some 1) else (some 0)))))
noncomputable def fX8_isBox (state : Nat → Int32) (x1 : Int32) : Option (Int32) :=
  (if (2 : Int32) < 0 ∨ 844 ≤ (2 : Int32).toNatClampNeg then none else (some (fX8_within x1 0 ((state (2 : Int32).toNatClampNeg) - 1))))
noncomputable def fX8_isLiveBox (state : Nat → Int32) (x1 : Int32) : Option (Int32) :=
  ((fX8_isBox state x1).bind fun q1 => (if q1 = 0 then (some 0) else ((fX8_boxPart state x1 1).bind fun q4 => (if q4 = 1 then (some 1) else (some 0)))))
noncomputable def fX8_isRoot (state : Nat → Int32) (x1 : Int32) : Option (Int32) :=
  ((fX8_keyPart state x1 0).bind fun q1 => (if q1 = (-6) then (some 1) else (some 0)))
noncomputable def fX8_canClose (state : Nat → Int32) (x1 : Int32) : Option (Int32) :=
  ((fX8_keyPart state x1 3).bind fun q1 => (if (0 : Int32) < 0 ∨ 844 ≤ (0 : Int32).toNatClampNeg then none else (if (state (0 : Int32).toNatClampNeg) ≤ q1 then (some 0) else (some 1))))
noncomputable def fX8_isUnder_b2 : Nat → (Nat → Int32) → Int32 → Int32 → Option (Int32)
  | 0, _, _, _ => none
  | fuel + 1, state, y2, y3 =>
  (if y3 = (-6) then (if y3 = y2 then (some 1) else (some 0)) else (if y3 = y2 then (if y3 = y2 then (some 1) else (some 0)) else ((fX8_keyPart state y3 0).bind fun q5 => fX8_isUnder_b2 fuel state y2 q5)))
noncomputable def fX8_isUnder (state : Nat → Int32) (x1 : Int32) (x2 : Int32) : Option (Int32) :=
  fX8_isUnder_b2 6000 state x2 x1
noncomputable def fX8_above_b9 : Nat → (Nat → Int32) → Int32 → Int32 → Option (Int32)
  | 0, _, _, _ => none
  | fuel + 1, state, y2, y3 =>
  (if y3 = (-6) then (some y2) else ((fX8_keyPart state y3 0).bind fun q2 => fX8_above_b9 fuel state (y2 + 1) q2))
noncomputable def fX8_above (state : Nat → Int32) (x1 : Int32) : Option (Int32) :=
  ((fX8_keyPart state x1 0).bind fun q4 => fX8_above_b9 6000 state 0 q4)
noncomputable def fX8_higher_b5 : Nat → (Nat → Int32) → Int32 → Int32 → Int32 → Option (Int32)
  | 0, _, _, _, _ => none
  | fuel + 1, state, y2, y3, y4 =>
  (if y2 ≤ y4 then (some y3) else ((fX8_keyPart state y3 0).bind fun q2 => fX8_higher_b5 fuel state y2 q2 (y4 + 1)))
noncomputable def fX8_higher (state : Nat → Int32) (x1 : Int32) (x2 : Int32) : Option (Int32) :=
  fX8_higher_b5 6000 state x2 x1 0
noncomputable def fX8_hangingKeys_b4 : Nat → (Nat → Int32) → Int32 → Int32 → Int32 → Option (Int32)
  | 0, _, _, _, _ => none
  | fuel + 1, state, y1, y2, y3 =>
  (if (1 : Int32) < 0 ∨ 844 ≤ (1 : Int32).toNatClampNeg then none else (if (state (1 : Int32).toNatClampNeg) ≤ y3 then (some y2) else ((fX8_keyPart state y3 1).bind fun q3 => (if q3 = 1 then ((fX8_keyPart state y3 0).bind fun q6 => (if q6 = y1 then fX8_hangingKeys_b4 fuel state y1 (y2 ||| (1 <<< (y3 &&& 31))) (y3 + 1) else fX8_hangingKeys_b4 fuel state y1 (y2 ||| 0) (y3 + 1))) else fX8_hangingKeys_b4 fuel state y1 (y2 ||| 0) (y3 + 1)))))
noncomputable def fX8_hangingKeys (state : Nat → Int32) (x1 : Int32) : Option (Int32) :=
  fX8_hangingKeys_b4 6000 state x1 0 0
noncomputable def fX8_hangingBoxes_b4 : Nat → (Nat → Int32) → Int32 → Int32 → Int32 → Option (Int32)
  | 0, _, _, _, _ => none
  | fuel + 1, state, y1, y2, y3 =>
  (if (2 : Int32) < 0 ∨ 844 ≤ (2 : Int32).toNatClampNeg then none else (if (state (2 : Int32).toNatClampNeg) ≤ y3 then (some y2) else ((fX8_boxPart state y3 1).bind fun q3 => (if q3 = 1 then ((fX8_boxPart state y3 0).bind fun q6 => (if q6 = y1 then fX8_hangingBoxes_b4 fuel state y1 (y2 ||| (1 <<< (y3 &&& 31))) (y3 + 1) else fX8_hangingBoxes_b4 fuel state y1 (y2 ||| 0) (y3 + 1))) else fX8_hangingBoxes_b4 fuel state y1 (y2 ||| 0) (y3 + 1)))))
noncomputable def fX8_hangingBoxes (state : Nat → Int32) (x1 : Int32) : Option (Int32) :=
  fX8_hangingBoxes_b4 6000 state x1 0 0
noncomputable def fX8_bits_b4 : Nat → Int32 → Int32 → Int32 → Option (Int32)
  | 0, _, _, _ => none
  | fuel + 1, y0, y1, y2 =>
  (if 20 ≤ y2 then (some y1) else fX8_bits_b4 fuel y0 (y1 + ((y0 >>> (y2 &&& 31)) &&& 1)) (y2 + 1))
noncomputable def fX8_bits (x0 : Int32) : Option (Int32) :=
  fX8_bits_b4 6000 x0 0 0
noncomputable def fX8_hangingFrom (state : Nat → Int32) (x1 : Int32) : Option (Int32) :=
  ((fX8_hangingKeys state x1).bind fun q1 => ((fX8_bits q1).bind fun q3 => ((fX8_hangingBoxes state x1).bind fun q5 => ((fX8_bits q5).bind fun q7 => (some (q3 + q7))))))
noncomputable def fX8_makeWrap (state : Nat → Int32) (x1 : Int32) (x2 : Int32) (x3 : Int32) : Option ((Nat → Int32)) :=
  (if (3 : Int32) < 0 ∨ 844 ≤ (3 : Int32).toNatClampNeg then none else ((fX8_setWrap state (state (3 : Int32).toNatClampNeg) 0 x1).bind fun q2 => ((fX8_setWrap q2 (state (3 : Int32).toNatClampNeg) 1 x2).bind fun q4 => ((fX8_setWrap q4 (state (3 : Int32).toNatClampNeg) 2 x3).bind fun q6 => ((fX8_keyPart q6 x3 2).bind fun q8 => ((fX8_setWrap q6 (state (3 : Int32).toNatClampNeg) 3 q8).bind fun q10 => ((fX8_setWrap q10 (state (3 : Int32).toNatClampNeg) 4 1).bind fun q12 => ((fX8_setWrap q12 (state (3 : Int32).toNatClampNeg) 5 0).bind fun q14 => ((fX8_keyPart q14 x3 3).bind fun q16 => ((fX8_setKey q14 x3 3 (q16 + 1)).bind fun q18 => (if (3 : Int32) < 0 ∨ 844 ≤ (3 : Int32).toNatClampNeg then none else (if (3 : Int32) < 0 ∨ 844 ≤ (3 : Int32).toNatClampNeg then none else (some (upd q18 (3 : Int32).toNatClampNeg ((q18 (3 : Int32).toNatClampNeg) + 1)))))))))))))))
noncomputable def fX8_wrapKey (state : Nat → Int32) (x1 : Int32) : Option ((Nat → Int32)) :=
  ((fX8_keyPart state x1 2).bind fun q1 => ((fX8_keyPart state x1 0).bind fun q3 => ((fX8_makeWrap state x1 q1 q3).bind fun q5 => (some q5))))
noncomputable def fX8_wrapBox (state : Nat → Int32) (x1 : Int32) : Option ((Nat → Int32)) :=
  ((fX8_boxPart state x1 0).bind fun q1 => ((fX8_makeWrap state (-6) x1 q1).bind fun q3 => (some q3)))
noncomputable def fX8_wrapAllUnder_b45 : Nat → (Nat → Int32) → Int32 → Int32 → Option ((Nat → Int32))
  | 0, _, _, _ => none
  | fuel + 1, state, y1, y2 =>
  (if (2 : Int32) < 0 ∨ 844 ≤ (2 : Int32).toNatClampNeg then none else (if (state (2 : Int32).toNatClampNeg) ≤ y2 then (some state) else ((fX8_boxPart state y2 1).bind fun q3 => (if q3 = 1 then ((fX8_boxPart state y2 0).bind fun q6 => (if q6 = y1 then ((fX8_wrapBox state y2).bind fun q9 => fX8_wrapAllUnder_b45 fuel q9 y1 (y2 + 1)) else fX8_wrapAllUnder_b45 fuel state y1 (y2 + 1))) else fX8_wrapAllUnder_b45 fuel state y1 (y2 + 1)))))
noncomputable def fX8_wrapAllUnder_b2 : Nat → (Nat → Int32) → Int32 → Int32 → Option ((Nat → Int32))
  | 0, _, _, _ => none
  | fuel + 1, state, y1, y2 =>
  (if (1 : Int32) < 0 ∨ 844 ≤ (1 : Int32).toNatClampNeg then none else (if (state (1 : Int32).toNatClampNeg) ≤ y2 then fX8_wrapAllUnder_b45 6000 state y1 0 else ((fX8_keyPart state y2 1).bind fun q13 => (if q13 = 1 then ((fX8_keyPart state y2 0).bind fun q16 => (if q16 = y1 then ((fX8_wrapKey state y2).bind fun q19 => fX8_wrapAllUnder_b2 fuel q19 y1 (y2 + 1)) else fX8_wrapAllUnder_b2 fuel state y1 (y2 + 1))) else fX8_wrapAllUnder_b2 fuel state y1 (y2 + 1)))))
noncomputable def fX8_wrapAllUnder (state : Nat → Int32) (x1 : Int32) : Option ((Nat → Int32)) :=
  fX8_wrapAllUnder_b2 6000 state x1 0
noncomputable def fX8_burns_b46 (k2 : (Nat → Int32) → Int32 → Option ((Nat → Int32))) (state : Nat → Int32) (y1 : Int32) (y2 : Int32) (z0 : Int32) : Option ((Nat → Int32)) :=
  (if y2 = (-6) then (if z0 = 0 then ((fX8_wrapPart state y1 1).bind fun q25 => ((fX8_boxPart state q25 1).bind fun q27 => (if q27 = 0 then ((fX8_setWrap state y1 4 0).bind fun q32 => k2 q32 (y1 + 1)) else k2 state (y1 + 1)))) else ((fX8_setWrap state y1 4 0).bind fun q23 => k2 q23 (y1 + 1))) else (if z0 = 0 then ((fX8_keyPart state y2 1).bind fun q6 => (if q6 = 0 then ((fX8_setWrap state y1 4 0).bind fun q10 => k2 q10 (y1 + 1)) else ((fX8_wrapPart state y1 1).bind fun q12 => ((fX8_keyPart state y2 2).bind fun q14 => (if q14 ≤ q12 then k2 state (y1 + 1) else ((fX8_setWrap state y1 4 0).bind fun q19 => k2 q19 (y1 + 1))))))) else ((fX8_setWrap state y1 4 0).bind fun q4 => k2 q4 (y1 + 1))))
noncomputable def fX8_burns_b2 : Nat → (Nat → Int32) → Int32 → Option ((Nat → Int32))
  | 0, _, _ => none
  | fuel + 1, state, y1 =>
  (if (3 : Int32) < 0 ∨ 844 ≤ (3 : Int32).toNatClampNeg then none else (if (state (3 : Int32).toNatClampNeg) ≤ y1 then (some state) else ((fX8_wrapPart state y1 0).bind fun q36 => ((fX8_wrapPart state y1 2).bind fun q38 => ((fX8_wrapPart state y1 3).bind fun q40 => ((fX8_keyPart state q38 2).bind fun q42 => (if q42 ≤ q40 then fX8_burns_b46 (fX8_burns_b2 fuel) state y1 q36 0 else fX8_burns_b46 (fX8_burns_b2 fuel) state y1 q36 1)))))))
noncomputable def fX8_burns (state : Nat → Int32) : Option ((Nat → Int32)) :=
  fX8_burns_b2 6000 state 0
noncomputable def fX8_isInSafe (state : Nat → Int32) (x1 : Int32) (x2 : Int32) : Option (Int32) :=
  ((fX8_keyPart state x1 1).bind fun q1 => (if q1 = 1 then ((fX8_isRoot state x1).bind fun q4 => (if q4 = 0 then (some 0) else ((fX8_keyPart state x1 2).bind fun q7 => (if q7 = x2 then (some 1) else (some 0))))) else (some 0)))
noncomputable def fX8_isHad_b36 : Nat → (Nat → Int32) → (Nat → Int32) → Int32 → Int32 → Int32 → Int32 → Option (Int32)
  | 0, _, _, _, _, _, _ => none
  | fuel + 1, state, opened, y1, y2, y5, y6 =>
  (if (3 : Int32) < 0 ∨ 844 ≤ (3 : Int32).toNatClampNeg then none else (if (state (3 : Int32).toNatClampNeg) ≤ y6 then (if y5 = 0 then some 0 else if y5 = 1 then some 1 else none) else (if y5 = 0 then (if y6 < 0 ∨ 120 ≤ y6.toNatClampNeg then none else (if (opened y6.toNatClampNeg) = 1 then ((fX8_wrapPart state y6 0).bind fun q10 => (if q10 = y1 then ((fX8_wrapPart state y6 1).bind fun q13 => (if q13 = y2 then fX8_isHad_b36 fuel state opened y1 y2 1 (y6 + 1) else fX8_isHad_b36 fuel state opened y1 y2 0 (y6 + 1))) else fX8_isHad_b36 fuel state opened y1 y2 0 (y6 + 1))) else fX8_isHad_b36 fuel state opened y1 y2 0 (y6 + 1))) else (if y5 = 0 then some 0 else if y5 = 1 then some 1 else none))))
noncomputable def fX8_isHad (state : Nat → Int32) (opened : Nat → Int32) (x1 : Int32) (x2 : Int32) (x3 : Int32) (x4 : Int32) : Option (Int32) :=
  (if x3 = (-6) then ((fX8_isInSafe state x1 x2).bind fun q19 => fX8_isHad_b36 6000 state opened x1 x2 q19 0) else (if x1 = x3 then (if x2 = x4 then fX8_isHad_b36 6000 state opened x1 x2 1 0 else fX8_isHad_b36 6000 state opened x1 x2 0 0) else fX8_isHad_b36 6000 state opened x1 x2 0 0))
noncomputable def fX8_open_b87 (k31 : (Nat → Int32) → (Nat → Int32) → Int32 → Int32 → Int32 → Int32 → Option ((Nat → Int32))) (k42 : (Nat → Int32) → (Nat → Int32) → Int32 → Int32 → Int32 → Int32 → Int32 → Option ((Nat → Int32))) (state : Nat → Int32) (opened : Nat → Int32) (y1 : Int32) (y2 : Int32) (y3 : Int32) (y4 : Int32) (y5 : Int32) (z0 : Int32) : Option ((Nat → Int32)) :=
  (if y5 < 0 ∨ 120 ≤ y5.toNatClampNeg then none else (if (opened y5.toNatClampNeg) = 0 then (if z0 = 0 then k42 state opened y1 y2 y3 y4 (y5 + 1) else ((fX8_wrapPart state y5 2).bind fun q4 => ((fX8_wrapPart state y5 3).bind fun q6 => ((fX8_isHad state opened q4 q6 y2 y3).bind fun q8 => (if q8 = 0 then k42 state opened y1 y2 y3 y4 (y5 + 1) else (if y5 < 0 ∨ 120 ≤ y5.toNatClampNeg then none else k42 state (upd opened y5.toNatClampNeg 1) y1 y2 y3 1 (y5 + 1))))))) else k42 state opened y1 y2 y3 y4 (y5 + 1)))
noncomputable def fX8_open_b42 (k31 : (Nat → Int32) → (Nat → Int32) → Int32 → Int32 → Int32 → Int32 → Option ((Nat → Int32))) : Nat → (Nat → Int32) → (Nat → Int32) → Int32 → Int32 → Int32 → Int32 → Int32 → Option ((Nat → Int32))
  | 0, _, _, _, _, _, _, _ => none
  | fuel + 1, state, opened, y1, y2, y3, y4, y5 =>
  (if (3 : Int32) < 0 ∨ 844 ≤ (3 : Int32).toNatClampNeg then none else (if (state (3 : Int32).toNatClampNeg) ≤ y5 then k31 state opened y1 y2 y3 y4 else ((fX8_wrapPart state y5 5).bind fun q14 => (if (q14 &&& y1) = 0 then (if y2 = (-6) then ((fX8_wrapPart state y5 4).bind fun q18 => (if q18 = 1 then fX8_open_b87 k31 (fX8_open_b42 k31 fuel) state opened y1 y2 y3 y4 y5 1 else fX8_open_b87 k31 (fX8_open_b42 k31 fuel) state opened y1 y2 y3 y4 y5 0)) else fX8_open_b87 k31 (fX8_open_b42 k31 fuel) state opened y1 y2 y3 y4 y5 0) else fX8_open_b87 k31 (fX8_open_b42 k31 fuel) state opened y1 y2 y3 y4 y5 1))))
noncomputable def fX8_open_b31 : Nat → (Nat → Int32) → (Nat → Int32) → Int32 → Int32 → Int32 → Int32 → Option ((Nat → Int32))
  | 0, _, _, _, _, _, _ => none
  | fuel + 1, state, opened, y1, y2, y3, y4 =>
  (if y4 = 0 then (some opened) else fX8_open_b42 (fX8_open_b31 fuel) 6000 state opened y1 y2 y3 0 0)
noncomputable def fX8_open_b3 : Nat → (Nat → Int32) → (Nat → Int32) → Int32 → Int32 → Int32 → Int32 → Option ((Nat → Int32))
  | 0, _, _, _, _, _, _ => none
  | fuel + 1, state, opened, y1, y2, y3, y4 =>
  (if (3 : Int32) < 0 ∨ 844 ≤ (3 : Int32).toNatClampNeg then none else (if (state (3 : Int32).toNatClampNeg) ≤ y4 then fX8_open_b31 6000 state opened y1 y2 y3 1 else (if y4 < 0 ∨ 120 ≤ y4.toNatClampNeg then none else fX8_open_b3 fuel state (upd opened y4.toNatClampNeg 0) y1 y2 y3 (y4 + 1))))
noncomputable def fX8_open (state : Nat → Int32) (opened : Nat → Int32) (x1 : Int32) (x2 : Int32) (x3 : Int32) : Option ((Nat → Int32)) :=
  fX8_open_b3 6000 state opened x1 x2 x3 0
noncomputable def fX8_openBoxes_b4 : Nat → (Nat → Int32) → (Nat → Int32) → Int32 → Int32 → Option (Int32)
  | 0, _, _, _, _ => none
  | fuel + 1, state, opened, y1, y2 =>
  (if (3 : Int32) < 0 ∨ 844 ≤ (3 : Int32).toNatClampNeg then none else (if (state (3 : Int32).toNatClampNeg) ≤ y2 then (some y1) else (if y2 < 0 ∨ 120 ≤ y2.toNatClampNeg then none else (if (opened y2.toNatClampNeg) = 1 then ((fX8_wrapPart state y2 0).bind fun q5 => (if q5 = (-6) then ((fX8_wrapPart state y2 1).bind fun q8 => fX8_openBoxes_b4 fuel state opened (y1 ||| (1 <<< (q8 &&& 31))) (y2 + 1)) else fX8_openBoxes_b4 fuel state opened (y1 ||| 0) (y2 + 1))) else fX8_openBoxes_b4 fuel state opened (y1 ||| 0) (y2 + 1)))))
noncomputable def fX8_openBoxes (state : Nat → Int32) (opened : Nat → Int32) : Option (Int32) :=
  fX8_openBoxes_b4 6000 state opened 0 0
noncomputable def fX8_openWith (state : Nat → Int32) (opened : Nat → Int32) (x1 : Int32) : Option (Int32 × (Nat → Int32)) :=
  ((fX8_open state opened x1 (-6) 0).bind fun q1 => ((fX8_openBoxes state q1).bind fun q3 => (some (q3, q1))))
noncomputable def fX8_wear (state : Nat → Int32) (history : Nat → Int32) (recorded : Int32) (x1 : Int32) : Option (Int32 × (Nat → Int32) × (Nat → Int32) × Int32) :=
  (if (fX8_within x1 2 30) = 0 then (some ((-2), state, history, recorded)) else ((fX8_record state history recorded).bind fun q2 => (if (0 : Int32) < 0 ∨ 844 ≤ (0 : Int32).toNatClampNeg then none else (if (0 : Int32) < 0 ∨ 844 ≤ (0 : Int32).toNatClampNeg then none else (some ((state (0 : Int32).toNatClampNeg), (upd state (0 : Int32).toNatClampNeg x1), q2.1, q2.2))))))
noncomputable def fX8_whyNoKey_b16 (state : Nat → Int32) (y1 : Int32) : Option (Int32) :=
  (if (1 : Int32) < 0 ∨ 844 ≤ (1 : Int32).toNatClampNeg then none else (if (state (1 : Int32).toNatClampNeg) = 20 then (some (-4)) else (if y1 = (-6) then (if y1 = (-6) then (some 0) else ((fX8_canClose state y1).bind fun q5 => (if q5 = 0 then (some (-5)) else (some 0)))) else (if (3 : Int32) < 0 ∨ 844 ≤ (3 : Int32).toNatClampNeg then none else (if (state (3 : Int32).toNatClampNeg) = 120 then (some (-4)) else (if y1 = (-6) then (some 0) else ((fX8_canClose state y1).bind fun q11 => (if q11 = 0 then (some (-5)) else (some 0)))))))))
noncomputable def fX8_whyNoKey (state : Nat → Int32) (x1 : Int32) : Option (Int32) :=
  (if x1 = (-6) then fX8_whyNoKey_b16 state x1 else ((fX8_isLiveKey state x1).bind fun q15 => (if q15 = 0 then (some (-1)) else fX8_whyNoKey_b16 state x1)))
noncomputable def fX8_makeKey (state : Nat → Int32) (x1 : Int32) : Option (Int32 × (Nat → Int32)) :=
  (if (1 : Int32) < 0 ∨ 844 ≤ (1 : Int32).toNatClampNeg then none else ((fX8_setKey state (state (1 : Int32).toNatClampNeg) 0 x1).bind fun q2 => ((fX8_setKey q2 (state (1 : Int32).toNatClampNeg) 1 1).bind fun q4 => ((fX8_setKey q4 (state (1 : Int32).toNatClampNeg) 2 0).bind fun q6 => ((fX8_setKey q6 (state (1 : Int32).toNatClampNeg) 3 0).bind fun q8 => (if (1 : Int32) < 0 ∨ 844 ≤ (1 : Int32).toNatClampNeg then none else (if (1 : Int32) < 0 ∨ 844 ≤ (1 : Int32).toNatClampNeg then none else (if x1 = (-6) then (some ((state (1 : Int32).toNatClampNeg), (upd q8 (1 : Int32).toNatClampNeg ((q8 (1 : Int32).toNatClampNeg) + 1)))) else ((fX8_wrapKey (upd q8 (1 : Int32).toNatClampNeg ((q8 (1 : Int32).toNatClampNeg) + 1)) (state (1 : Int32).toNatClampNeg)).bind fun q13 => (some ((state (1 : Int32).toNatClampNeg), q13)))))))))))
noncomputable def fX8_key (state : Nat → Int32) (history : Nat → Int32) (recorded : Int32) (x1 : Int32) : Option (Int32 × (Nat → Int32) × (Nat → Int32) × Int32) :=
  ((fX8_whyNoKey state x1).bind fun q1 => (if 0 ≤ q1 then ((fX8_record state history recorded).bind fun q4 => ((fX8_makeKey state x1).bind fun q6 => (some (q6.1, q6.2, q4.1, q4.2)))) else (some (q1, state, history, recorded))))
noncomputable def fX8_whyNoBox (state : Nat → Int32) (x1 : Int32) : Option (Int32) :=
  ((fX8_isLiveKey state x1).bind fun q1 => (if q1 = 0 then (some (-1)) else (if (2 : Int32) < 0 ∨ 844 ≤ (2 : Int32).toNatClampNeg then none else (if (state (2 : Int32).toNatClampNeg) = 20 then (some (-4)) else (if (3 : Int32) < 0 ∨ 844 ≤ (3 : Int32).toNatClampNeg then none else (if (state (3 : Int32).toNatClampNeg) = 120 then (some (-4)) else ((fX8_canClose state x1).bind fun q8 => (if q8 = 0 then (some (-5)) else (some 0)))))))))
noncomputable def fX8_makeBox (state : Nat → Int32) (x1 : Int32) : Option (Int32 × (Nat → Int32)) :=
  (if (2 : Int32) < 0 ∨ 844 ≤ (2 : Int32).toNatClampNeg then none else ((fX8_setBox state (state (2 : Int32).toNatClampNeg) 0 x1).bind fun q2 => ((fX8_setBox q2 (state (2 : Int32).toNatClampNeg) 1 1).bind fun q4 => (if (2 : Int32) < 0 ∨ 844 ≤ (2 : Int32).toNatClampNeg then none else (if (2 : Int32) < 0 ∨ 844 ≤ (2 : Int32).toNatClampNeg then none else ((fX8_wrapBox (upd q4 (2 : Int32).toNatClampNeg ((q4 (2 : Int32).toNatClampNeg) + 1)) (state (2 : Int32).toNatClampNeg)).bind fun q8 => (some ((state (2 : Int32).toNatClampNeg), q8))))))))
noncomputable def fX8_box (state : Nat → Int32) (history : Nat → Int32) (recorded : Int32) (x1 : Int32) : Option (Int32 × (Nat → Int32) × (Nat → Int32) × Int32) :=
  ((fX8_whyNoBox state x1).bind fun q1 => (if 0 ≤ q1 then ((fX8_record state history recorded).bind fun q4 => ((fX8_makeBox state x1).bind fun q6 => (some (q6.1, q6.2, q4.1, q4.2)))) else (some (q1, state, history, recorded))))
noncomputable def fX8_whyNoCopy (state : Nat → Int32) (x1 : Int32) (x2 : Int32) : Option (Int32) :=
  (if (3 : Int32) < 0 ∨ 844 ≤ (3 : Int32).toNatClampNeg then none else (if (fX8_within x1 0 ((state (3 : Int32).toNatClampNeg) - 1)) = 0 then (some (-1)) else (if (fX8_within x2 0 2) = 0 then (some (-2)) else ((fX8_wrapPart state x1 4).bind fun q4 => (if q4 = 0 then (some (-5)) else ((fX8_wrapPart state x1 5).bind fun q7 => (if ((q7 >>> (x2 &&& 31)) &&& 1) = 1 then (some (-5)) else (some 0))))))))
noncomputable def fX8_copied_b21 : Nat → (Nat → Int32) → Int32 → Int32 → Int32 → Option (Int32 × (Nat → Int32))
  | 0, _, _, _, _ => none
  | fuel + 1, state, y2, y3, y4 =>
  (if (3 : Int32) < 0 ∨ 844 ≤ (3 : Int32).toNatClampNeg then none else (if (state (3 : Int32).toNatClampNeg) ≤ y4 then (some (y3, state)) else ((fX8_wrapPart state y4 5).bind fun q3 => fX8_copied_b21 fuel state y2 (y3 + ((q3 >>> (y2 &&& 31)) &&& 1)) (y4 + 1))))
noncomputable def fX8_copied (state : Nat → Int32) (x1 : Int32) (x2 : Int32) : Option (Int32 × (Nat → Int32)) :=
  ((fX8_wrapPart state x1 5).bind fun q5 => ((fX8_setWrap state x1 5 (q5 ||| (1 <<< (x2 &&& 31)))).bind fun q7 => fX8_copied_b21 6000 q7 x2 0 0))
noncomputable def fX8_copy (state : Nat → Int32) (history : Nat → Int32) (recorded : Int32) (x1 : Int32) (x2 : Int32) : Option (Int32 × (Nat → Int32) × (Nat → Int32) × Int32) :=
  ((fX8_whyNoCopy state x1 x2).bind fun q1 => (if 0 ≤ q1 then ((fX8_record state history recorded).bind fun q4 => ((fX8_copied state x1 x2).bind fun q6 => (some (q6.1, q6.2, q4.1, q4.2)))) else (some (q1, state, history, recorded))))
noncomputable def fX8_renewMakes (state : Nat → Int32) (x1 : Int32) : Option (Int32) :=
  ((fX8_hangingFrom state x1).bind fun q1 => ((fX8_isRoot state x1).bind fun q3 => (if q3 = 0 then (some (q1 + 1)) else (some (q1 + 0)))))
noncomputable def fX8_whyNotRenewed (state : Nat → Int32) (x1 : Int32) : Option (Int32) :=
  ((fX8_isLiveKey state x1).bind fun q1 => (if q1 = 0 then (some (-1)) else (if (3 : Int32) < 0 ∨ 844 ≤ (3 : Int32).toNatClampNeg then none else ((fX8_renewMakes state x1).bind fun q5 => (if ((state (3 : Int32).toNatClampNeg) + q5) ≤ 120 then ((fX8_isRoot state x1).bind fun q8 => (if q8 = 0 then ((fX8_keyPart state x1 0).bind fun q15 => ((fX8_canClose state q15).bind fun q17 => (if q17 = 0 then (some (-5)) else ((fX8_hangingFrom state x1).bind fun q20 => (if (0 : Int32) < 0 ∨ 844 ≤ (0 : Int32).toNatClampNeg then none else (if q20 ≤ (state (0 : Int32).toNatClampNeg) then (some 0) else (some (-5)))))))) else ((fX8_hangingFrom state x1).bind fun q11 => (if (0 : Int32) < 0 ∨ 844 ≤ (0 : Int32).toNatClampNeg then none else (if q11 ≤ (state (0 : Int32).toNatClampNeg) then (some 0) else (some (-5))))))) else (some (-4)))))))
noncomputable def fX8_makesAnew (state : Nat → Int32) (x1 : Int32) : Option ((Nat → Int32)) :=
  ((fX8_keyPart state x1 2).bind fun q1 => ((fX8_setKey state x1 2 (q1 + 1)).bind fun q3 => ((fX8_setKey q3 x1 3 0).bind fun q5 => (some q5))))
noncomputable def fX8_renewed (state : Nat → Int32) (x1 : Int32) : Option (Int32 × (Nat → Int32)) :=
  ((fX8_renewMakes state x1).bind fun q1 => ((fX8_makesAnew state x1).bind fun q3 => ((fX8_burns q3).bind fun q5 => ((fX8_isRoot q5 x1).bind fun q7 => (if q7 = 0 then ((fX8_wrapKey q5 x1).bind fun q12 => ((fX8_wrapAllUnder q12 x1).bind fun q14 => (some (q1, q14)))) else ((fX8_wrapAllUnder q5 x1).bind fun q10 => (some (q1, q10))))))))
noncomputable def fX8_renew (state : Nat → Int32) (history : Nat → Int32) (recorded : Int32) (x1 : Int32) : Option (Int32 × (Nat → Int32) × (Nat → Int32) × Int32) :=
  ((fX8_whyNotRenewed state x1).bind fun q1 => (if 0 ≤ q1 then ((fX8_record state history recorded).bind fun q4 => ((fX8_renewed state x1).bind fun q6 => (some (q6.1, q6.2, q4.1, q4.2)))) else (some (q1, state, history, recorded))))
noncomputable def fX8_throwMakes_b31 (k7 : (Nat → Int32) → Int32 → Int32 → Int32 → Int32 → Option (Int32)) (state : Nat → Int32) (y1 : Int32) (y2 : Int32) (y3 : Int32) (y4 : Int32) (z0 : Int32) (z1 : Int32) : Option (Int32) :=
  (if y3 = 0 then ((fX8_keyPart state y4 0).bind fun q2 => k7 state y1 (y2 + (z0 - z1)) 0 q2) else (if (0 : Int32) < 0 ∨ 844 ≤ (0 : Int32).toNatClampNeg then none else (if (state (0 : Int32).toNatClampNeg) < (z0 - z1) then ((fX8_keyPart state y4 0).bind fun q6 => k7 state y1 (y2 + (z0 - z1)) 0 q6) else ((fX8_keyPart state y4 0).bind fun q8 => k7 state y1 (y2 + (z0 - z1)) 1 q8))))
noncomputable def fX8_throwMakes_b7 : Nat → (Nat → Int32) → Int32 → Int32 → Int32 → Int32 → Option (Int32)
  | 0, _, _, _, _, _ => none
  | fuel + 1, state, y1, y2, y3, y4 =>
  (if y4 = (-6) then (if y3 = 0 then (some (-5)) else (some y2)) else ((fX8_hangingFrom state y4).bind fun q12 => (if y4 = y1 then fX8_throwMakes_b31 (fX8_throwMakes_b7 fuel) state y1 y2 y3 y4 q12 1 else fX8_throwMakes_b31 (fX8_throwMakes_b7 fuel) state y1 y2 y3 y4 q12 0)))
noncomputable def fX8_throwMakes (state : Nat → Int32) (x1 : Int32) : Option (Int32) :=
  fX8_throwMakes_b7 6000 state x1 0 1 x1
noncomputable def fX8_whyNotThrown_b4 : Nat → (Nat → Int32) → Int32 → Int32 → Int32 → Option (Int32)
  | 0, _, _, _, _ => none
  | fuel + 1, state, y1, y2, y3 =>
  (if y3 = (-6) then (if (3 : Int32) < 0 ∨ 844 ≤ (3 : Int32).toNatClampNeg then none else (if ((state (3 : Int32).toNatClampNeg) + y2) ≤ 120 then ((fX8_throwMakes state y1).bind fun q4 => (if 0 ≤ q4 then (some 0) else (some (-5)))) else (some (-4)))) else ((fX8_hangingFrom state y3).bind fun q7 => (if y3 = y1 then ((fX8_keyPart state y3 0).bind fun q12 => fX8_whyNotThrown_b4 fuel state y1 (y2 + (q7 - 1)) q12) else ((fX8_keyPart state y3 0).bind fun q10 => fX8_whyNotThrown_b4 fuel state y1 (y2 + (q7 - 0)) q10))))
noncomputable def fX8_whyNotThrown (state : Nat → Int32) (x1 : Int32) : Option (Int32) :=
  fX8_whyNotThrown_b4 6000 state x1 0 x1
noncomputable def fX8_makesAboveAnew_b43 : Nat → (Nat → Int32) → Int32 → Int32 → Option ((Nat → Int32))
  | 0, _, _, _ => none
  | fuel + 1, state, y1, y2 =>
  (if y2 < 0 then (some state) else ((fX8_higher state y1 y2).bind fun q2 => ((fX8_wrapAllUnder state q2).bind fun q4 => fX8_makesAboveAnew_b43 fuel q4 y1 (y2 + (-1)))))
noncomputable def fX8_makesAboveAnew_b2 : Nat → (Nat → Int32) → Int32 → Int32 → Option ((Nat → Int32))
  | 0, _, _, _ => none
  | fuel + 1, state, y1, y2 =>
  (if y2 = (-6) then ((fX8_burns state).bind fun q7 => (if y1 = (-6) then fX8_makesAboveAnew_b43 6000 q7 y1 (-1) else ((fX8_above q7 y1).bind fun q10 => fX8_makesAboveAnew_b43 6000 q7 y1 q10))) else ((fX8_makesAnew state y2).bind fun q12 => ((fX8_keyPart q12 y2 0).bind fun q14 => fX8_makesAboveAnew_b2 fuel q12 y1 q14)))
noncomputable def fX8_makesAboveAnew (state : Nat → Int32) (x1 : Int32) : Option ((Nat → Int32)) :=
  fX8_makesAboveAnew_b2 6000 state x1 x1
noncomputable def fX8_whyKeyNotThrown (state : Nat → Int32) (x1 : Int32) : Option (Int32) :=
  ((fX8_isLiveKey state x1).bind fun q1 => (if q1 = 0 then (some (-1)) else ((fX8_keyPart state x1 0).bind fun q4 => ((fX8_whyNotThrown state q4).bind fun q6 => (some q6)))))
noncomputable def fX8_keyThrown_b52 : Nat → (Nat → Int32) → Int32 → Int32 → Int32 → Option (Int32 × (Nat → Int32))
  | 0, _, _, _, _ => none
  | fuel + 1, state, y1, y2, y3 =>
  (if (1 : Int32) < 0 ∨ 844 ≤ (1 : Int32).toNatClampNeg then none else (if (state (1 : Int32).toNatClampNeg) ≤ y3 then ((fX8_keyPart state y1 0).bind fun q3 => ((fX8_makesAboveAnew state q3).bind fun q5 => (some (y2, q5)))) else ((fX8_isUnder state y3 y1).bind fun q7 => (if q7 = 0 then fX8_keyThrown_b52 fuel state y1 y2 (y3 + 1) else ((fX8_setKey state y3 1 0).bind fun q10 => fX8_keyThrown_b52 fuel q10 y1 y2 (y3 + 1))))))
noncomputable def fX8_keyThrown_b13 : Nat → (Nat → Int32) → Int32 → Int32 → Int32 → Option (Int32 × (Nat → Int32))
  | 0, _, _, _, _ => none
  | fuel + 1, state, y1, y2, y3 =>
  (if (2 : Int32) < 0 ∨ 844 ≤ (2 : Int32).toNatClampNeg then none else (if (state (2 : Int32).toNatClampNeg) ≤ y3 then fX8_keyThrown_b52 6000 state y1 y2 0 else ((fX8_boxPart state y3 0).bind fun q14 => ((fX8_isUnder state q14 y1).bind fun q16 => (if q16 = 0 then fX8_keyThrown_b13 fuel state y1 y2 (y3 + 1) else ((fX8_setBox state y3 1 0).bind fun q19 => fX8_keyThrown_b13 fuel q19 y1 y2 (y3 + 1)))))))
noncomputable def fX8_keyThrown (state : Nat → Int32) (x1 : Int32) : Option (Int32 × (Nat → Int32)) :=
  ((fX8_keyPart state x1 0).bind fun q21 => ((fX8_throwMakes state q21).bind fun q23 => fX8_keyThrown_b13 6000 state x1 q23 0))
noncomputable def fX8_throwKey (state : Nat → Int32) (history : Nat → Int32) (recorded : Int32) (x1 : Int32) : Option (Int32 × (Nat → Int32) × (Nat → Int32) × Int32) :=
  ((fX8_whyKeyNotThrown state x1).bind fun q1 => (if 0 ≤ q1 then ((fX8_record state history recorded).bind fun q4 => ((fX8_keyThrown state x1).bind fun q6 => (some (q6.1, q6.2, q4.1, q4.2)))) else (some (q1, state, history, recorded))))
noncomputable def fX8_whyBoxNotThrown (state : Nat → Int32) (x1 : Int32) : Option (Int32) :=
  ((fX8_isLiveBox state x1).bind fun q1 => (if q1 = 0 then (some (-1)) else ((fX8_boxPart state x1 0).bind fun q4 => ((fX8_whyNotThrown state q4).bind fun q6 => (some q6)))))
noncomputable def fX8_boxThrown (state : Nat → Int32) (x1 : Int32) : Option (Int32 × (Nat → Int32)) :=
  ((fX8_boxPart state x1 0).bind fun q1 => ((fX8_throwMakes state q1).bind fun q3 => ((fX8_setBox state x1 1 0).bind fun q5 => ((fX8_boxPart q5 x1 0).bind fun q7 => ((fX8_makesAboveAnew q5 q7).bind fun q9 => (some (q3, q9)))))))
noncomputable def fX8_throwBox (state : Nat → Int32) (history : Nat → Int32) (recorded : Int32) (x1 : Int32) : Option (Int32 × (Nat → Int32) × (Nat → Int32) × Int32) :=
  ((fX8_whyBoxNotThrown state x1).bind fun q1 => (if 0 ≤ q1 then ((fX8_record state history recorded).bind fun q4 => ((fX8_boxThrown state x1).bind fun q6 => (some (q6.1, q6.2, q4.1, q4.2)))) else (some (q1, state, history, recorded))))
noncomputable def fX8_ofKey (state : Nat → Int32) (x1 : Int32) (x2 : Int32) : Option (Int32) :=
  ((fX8_isKey state x1).bind fun q1 => (if q1 = 0 then (some (-1)) else (if x2 = 0 then ((fX8_keyPart state x1 x2).bind fun q5 => (some q5)) else (if x2 = 1 then ((fX8_keyPart state x1 x2).bind fun q8 => (some q8)) else (if x2 = 2 then ((fX8_keyPart state x1 x2).bind fun q11 => (some q11)) else (if x2 = 3 then ((fX8_keyPart state x1 x2).bind fun q14 => (some q14)) else (if x2 = 4 then ((fX8_hangingKeys state x1).bind fun q17 => (some q17)) else (if x2 = 5 then ((fX8_hangingBoxes state x1).bind fun q20 => (some q20)) else (if x2 = 6 then ((fX8_above state x1).bind fun q23 => (some q23)) else (some (-2)))))))))))
noncomputable def fX8_ofBox (state : Nat → Int32) (opened : Nat → Int32) (x1 : Int32) (x2 : Int32) : Option (Int32 × (Nat → Int32)) :=
  ((fX8_isBox state x1).bind fun q1 => (if q1 = 0 then (some ((-1), opened)) else (if x2 = 0 then ((fX8_boxPart state x1 x2).bind fun q5 => (some (q5, opened))) else (if x2 = 1 then ((fX8_boxPart state x1 x2).bind fun q8 => (some (q8, opened))) else (if x2 = 2 then ((fX8_openWith state opened 0).bind fun q11 => (some (((q11.1 >>> (x1 &&& 31)) &&& 1), q11.2))) else (if x2 = 3 then ((fX8_openWith state opened 7).bind fun q14 => (some (((q14.1 >>> (x1 &&& 31)) &&& 1), q14.2))) else (some ((-2), opened))))))))
noncomputable def fX8_wrap (state : Nat → Int32) (x1 : Int32) (x2 : Int32) : Option (Int32) :=
  (if (3 : Int32) < 0 ∨ 844 ≤ (3 : Int32).toNatClampNeg then none else (if (fX8_within x1 0 ((state (3 : Int32).toNatClampNeg) - 1)) = 0 then (some (-1)) else (if (fX8_within x2 0 5) = 0 then (some (-2)) else ((fX8_wrapPart state x1 x2).bind fun q4 => (some q4)))))
noncomputable def fX8_liveKeys_b4 : Nat → (Nat → Int32) → Int32 → Int32 → Option (Int32)
  | 0, _, _, _ => none
  | fuel + 1, state, y1, y2 =>
  (if (1 : Int32) < 0 ∨ 844 ≤ (1 : Int32).toNatClampNeg then none else (if (state (1 : Int32).toNatClampNeg) ≤ y2 then (some y1) else ((fX8_keyPart state y2 1).bind fun q3 => fX8_liveKeys_b4 fuel state (y1 + q3) (y2 + 1))))
noncomputable def fX8_liveKeys (state : Nat → Int32) : Option (Int32) :=
  fX8_liveKeys_b4 6000 state 0 0
noncomputable def fX8_liveBoxes_b4 : Nat → (Nat → Int32) → Int32 → Int32 → Option (Int32)
  | 0, _, _, _ => none
  | fuel + 1, state, y1, y2 =>
  (if (2 : Int32) < 0 ∨ 844 ≤ (2 : Int32).toNatClampNeg then none else (if (state (2 : Int32).toNatClampNeg) ≤ y2 then (some y1) else ((fX8_boxPart state y2 1).bind fun q3 => fX8_liveBoxes_b4 fuel state (y1 + q3) (y2 + 1))))
noncomputable def fX8_liveBoxes (state : Nat → Int32) : Option (Int32) :=
  fX8_liveBoxes_b4 6000 state 0 0
noncomputable def fX8_inHouse_b4 : Nat → (Nat → Int32) → Int32 → Int32 → Option (Int32)
  | 0, _, _, _ => none
  | fuel + 1, state, y1, y2 =>
  (if (3 : Int32) < 0 ∨ 844 ≤ (3 : Int32).toNatClampNeg then none else (if (state (3 : Int32).toNatClampNeg) ≤ y2 then (some y1) else ((fX8_wrapPart state y2 4).bind fun q3 => fX8_inHouse_b4 fuel state (y1 + q3) (y2 + 1))))
noncomputable def fX8_inHouse (state : Nat → Int32) : Option (Int32) :=
  fX8_inHouse_b4 6000 state 0 0
noncomputable def fX8_outside_b4 : Nat → (Nat → Int32) → Int32 → Int32 → Option (Int32)
  | 0, _, _, _ => none
  | fuel + 1, state, y1, y2 =>
  (if (3 : Int32) < 0 ∨ 844 ≤ (3 : Int32).toNatClampNeg then none else (if (state (3 : Int32).toNatClampNeg) ≤ y2 then (some y1) else ((fX8_wrapPart state y2 5).bind fun q3 => ((fX8_bits q3).bind fun q5 => fX8_outside_b4 fuel state (y1 + q5) (y2 + 1)))))
noncomputable def fX8_outside (state : Nat → Int32) : Option (Int32) :=
  fX8_outside_b4 6000 state 0 0
noncomputable def fX8_wornKeys_b4 : Nat → (Nat → Int32) → Int32 → Int32 → Option (Int32)
  | 0, _, _, _ => none
  | fuel + 1, state, y1, y2 =>
  (if (1 : Int32) < 0 ∨ 844 ≤ (1 : Int32).toNatClampNeg then none else (if (state (1 : Int32).toNatClampNeg) ≤ y2 then (some y1) else ((fX8_keyPart state y2 1).bind fun q3 => (if q3 = 1 then ((fX8_canClose state y2).bind fun q6 => (if q6 = 0 then fX8_wornKeys_b4 fuel state (y1 ||| (1 <<< (y2 &&& 31))) (y2 + 1) else fX8_wornKeys_b4 fuel state (y1 ||| 0) (y2 + 1))) else fX8_wornKeys_b4 fuel state (y1 ||| 0) (y2 + 1)))))
noncomputable def fX8_wornKeys (state : Nat → Int32) : Option (Int32) :=
  fX8_wornKeys_b4 6000 state 0 0
noncomputable def fX8_count (state : Nat → Int32) (recorded : Int32) (padLength : Int32) (opened : Nat → Int32) (x1 : Int32) : Option (Int32 × (Nat → Int32)) :=
  (if x1 = 0 then (if (1 : Int32) < 0 ∨ 844 ≤ (1 : Int32).toNatClampNeg then none else (some ((state (1 : Int32).toNatClampNeg), opened))) else (if x1 = 1 then ((fX8_liveKeys state).bind fun q4 => (some (q4, opened))) else (if x1 = 2 then (if (2 : Int32) < 0 ∨ 844 ≤ (2 : Int32).toNatClampNeg then none else (some ((state (2 : Int32).toNatClampNeg), opened))) else (if x1 = 3 then ((fX8_liveBoxes state).bind fun q9 => (some (q9, opened))) else (if x1 = 4 then (if (3 : Int32) < 0 ∨ 844 ≤ (3 : Int32).toNatClampNeg then none else (some ((state (3 : Int32).toNatClampNeg), opened))) else (if x1 = 5 then ((fX8_inHouse state).bind fun q14 => (some (q14, opened))) else (if x1 = 6 then ((fX8_outside state).bind fun q17 => (some (q17, opened))) else (if x1 = 7 then (if (0 : Int32) < 0 ∨ 844 ≤ (0 : Int32).toNatClampNeg then none else (some ((state (0 : Int32).toNatClampNeg), opened))) else (if x1 = 8 then ((fX8_wornKeys state).bind fun q22 => (some (q22, opened))) else (if x1 = 9 then ((fX8_openWith state opened 0).bind fun q25 => (some (q25.1, q25.2))) else (if x1 = 10 then (some (padLength, opened)) else (if x1 = 11 then (some (recorded, opened)) else (some ((-2), opened))))))))))))))
noncomputable def fX8_canOpen (state : Nat → Int32) (opened : Nat → Int32) (x1 : Int32) (x2 : Int32) : Option (Int32 × (Nat → Int32)) :=
  ((fX8_isBox state x1).bind fun q1 => (if q1 = 0 then ((fX8_isBox state x1).bind fun q4 => (if q4 = 0 then (some ((-1), opened)) else (some ((-2), opened)))) else (if (fX8_within x2 0 7) = 0 then ((fX8_isBox state x1).bind fun q10 => (if q10 = 0 then (some ((-1), opened)) else (some ((-2), opened)))) else ((fX8_openWith state opened x2).bind fun q8 => (some (((q8.1 >>> (x1 &&& 31)) &&& 1), q8.2))))))
noncomputable def fX8_canHave (state : Nat → Int32) (opened : Nat → Int32) (x1 : Int32) (x2 : Int32) (x3 : Int32) : Option (Int32 × (Nat → Int32)) :=
  ((fX8_isKey state x1).bind fun q1 => (if q1 = 0 then ((fX8_isKey state x1).bind fun q4 => (if q4 = 0 then (some ((-1), opened)) else (some ((-2), opened)))) else (if x2 < 0 then ((fX8_isKey state x1).bind fun q8 => (if q8 = 0 then (some ((-1), opened)) else (some ((-2), opened)))) else (if (fX8_within x3 0 7) = 0 then ((fX8_isKey state x1).bind fun q17 => (if q17 = 0 then (some ((-1), opened)) else (some ((-2), opened)))) else ((fX8_open state opened x3 (-6) 0).bind fun q12 => ((fX8_isHad state q12 x1 x2 (-6) 0).bind fun q14 => (if q14 = 0 then (some (0, q12)) else (some (1, q12)))))))))
noncomputable def fX8_houseWrap_b6 : Nat → (Nat → Int32) → Int32 → Int32 → Int32 → Int32 → Option (Int32)
  | 0, _, _, _, _, _ => none
  | fuel + 1, state, y1, y2, y3, y4 =>
  (if (3 : Int32) < 0 ∨ 844 ≤ (3 : Int32).toNatClampNeg then none else (if (state (3 : Int32).toNatClampNeg) ≤ y4 then (some y3) else ((fX8_wrapPart state y4 4).bind fun q3 => (if q3 = 1 then ((fX8_wrapPart state y4 0).bind fun q6 => (if q6 = y1 then ((fX8_wrapPart state y4 1).bind fun q9 => (if q9 = y2 then fX8_houseWrap_b6 fuel state y1 y2 y4 (y4 + 1) else fX8_houseWrap_b6 fuel state y1 y2 y3 (y4 + 1))) else fX8_houseWrap_b6 fuel state y1 y2 y3 (y4 + 1))) else fX8_houseWrap_b6 fuel state y1 y2 y3 (y4 + 1)))))
noncomputable def fX8_houseWrap (state : Nat → Int32) (x1 : Int32) (x2 : Int32) : Option (Int32) :=
  fX8_houseWrap_b6 6000 state x1 x2 (-6) 0
noncomputable def fX8_way (state : Nat → Int32) (x1 : Int32) (x2 : Int32) : Option (Int32) :=
  ((fX8_isLiveBox state x1).bind fun q1 => (if q1 = 0 then ((fX8_isLiveBox state x1).bind fun q4 => (if q4 = 0 then (some (-1)) else (some (-2)))) else (if 0 ≤ x2 then ((fX8_boxPart state x1 0).bind fun q8 => ((fX8_above state q8).bind fun q10 => (if x2 ≤ q10 then (if x2 = q10 then (if x2 = q10 then ((fX8_houseWrap state (-6) x1).bind fun q28 => (some q28)) else ((fX8_keyPart state (-6) 2).bind fun q24 => ((fX8_houseWrap state (-6) q24).bind fun q26 => (some q26)))) else ((fX8_higher state q8 ((q10 - 1) - x2)).bind fun q14 => (if x2 = q10 then ((fX8_houseWrap state q14 x1).bind fun q21 => (some q21)) else ((fX8_keyPart state q14 2).bind fun q17 => ((fX8_houseWrap state q14 q17).bind fun q19 => (some q19)))))) else (some (-6))))) else ((fX8_isLiveBox state x1).bind fun q30 => (if q30 = 0 then (some (-1)) else (some (-2)))))))
noncomputable def fX8_leaks (state : Nat → Int32) (opened : Nat → Int32) (x1 : Int32) (x2 : Int32) (x3 : Int32) : Option (Int32 × (Nat → Int32)) :=
  ((fX8_isKey state x1).bind fun q1 => (if q1 = 0 then (some ((-1), opened)) else ((fX8_isRoot state x1).bind fun q4 => (if q4 = 0 then (some ((-1), opened)) else (if x2 < 0 then (some ((-2), opened)) else (if (fX8_within x3 0 7) = 0 then (some ((-2), opened)) else ((fX8_open state opened x3 x1 x2).bind fun q9 => ((fX8_openBoxes state q9).bind fun q11 => (some (q11, q9))))))))))
noncomputable def fX8_lostBy_b14 : Nat → (Nat → Int32) → Int32 → Int32 → Int32 → Option (Int32)
  | 0, _, _, _, _ => none
  | fuel + 1, state, y1, y2, y3 =>
  (if (2 : Int32) < 0 ∨ 844 ≤ (2 : Int32).toNatClampNeg then none else (if (state (2 : Int32).toNatClampNeg) ≤ y3 then (some y2) else ((fX8_boxPart state y3 1).bind fun q3 => (if q3 = 1 then ((fX8_boxPart state y3 0).bind fun q6 => ((fX8_isUnder state q6 y1).bind fun q8 => (if q8 = 0 then fX8_lostBy_b14 fuel state y1 (y2 ||| 0) (y3 + 1) else fX8_lostBy_b14 fuel state y1 (y2 ||| (1 <<< (y3 &&& 31))) (y3 + 1)))) else fX8_lostBy_b14 fuel state y1 (y2 ||| 0) (y3 + 1)))))
noncomputable def fX8_lostBy (state : Nat → Int32) (x1 : Int32) : Option (Int32) :=
  ((fX8_isLiveKey state x1).bind fun q11 => (if q11 = 0 then (some (-1)) else fX8_lostBy_b14 6000 state x1 0 0))
noncomputable def fX8_throwingMakes (state : Nat → Int32) (x1 : Int32) (x2 : Int32) : Option (Int32) :=
  (if (fX8_within x1 0 1) = 0 then (some (-2)) else (if x1 = 0 then ((fX8_isLiveKey state x2).bind fun q15 => (if q15 = 0 then (some (-1)) else (if x1 = 0 then ((fX8_keyPart state x2 0).bind fun q23 => ((fX8_throwMakes state q23).bind fun q25 => (some q25))) else ((fX8_boxPart state x2 0).bind fun q19 => ((fX8_throwMakes state q19).bind fun q21 => (some q21)))))) else ((fX8_isLiveBox state x2).bind fun q3 => (if q3 = 0 then (some (-1)) else (if x1 = 0 then ((fX8_keyPart state x2 0).bind fun q11 => ((fX8_throwMakes state q11).bind fun q13 => (some q13))) else ((fX8_boxPart state x2 0).bind fun q7 => ((fX8_throwMakes state q7).bind fun q9 => (some q9))))))))
noncomputable def fX8_leftOf (state : Nat → Int32) (x1 : Int32) : Option (Int32) :=
  (if (0 : Int32) < 0 ∨ 844 ≤ (0 : Int32).toNatClampNeg then none else ((fX8_keyPart state x1 3).bind fun q2 => (if ((state (0 : Int32).toNatClampNeg) - q2) ≤ 0 then (some 0) else (some ((state (0 : Int32).toNatClampNeg) - q2)))))
noncomputable def fX8_mostWorn_b17 : Nat → (Nat → Int32) → Int32 → Int32 → Int32 → Option (Int32)
  | 0, _, _, _, _ => none
  | fuel + 1, state, y1, y2, y3 =>
  (if (1 : Int32) < 0 ∨ 844 ≤ (1 : Int32).toNatClampNeg then none else (if (state (1 : Int32).toNatClampNeg) ≤ y3 then (if y2 = (-6) then (some y2) else (if y1 = 0 then (some y2) else ((fX8_leftOf state y2).bind fun q5 => (some q5)))) else ((fX8_keyPart state y3 1).bind fun q7 => (if q7 = 1 then (if y2 = (-6) then fX8_mostWorn_b17 fuel state y1 y3 (y3 + 1) else ((fX8_leftOf state y3).bind fun q11 => ((fX8_leftOf state y2).bind fun q13 => (if q13 ≤ q11 then fX8_mostWorn_b17 fuel state y1 y2 (y3 + 1) else fX8_mostWorn_b17 fuel state y1 y3 (y3 + 1))))) else fX8_mostWorn_b17 fuel state y1 y2 (y3 + 1)))))
noncomputable def fX8_mostWorn (state : Nat → Int32) (x1 : Int32) : Option (Int32) :=
  (if (fX8_within x1 0 1) = 0 then (some (-2)) else fX8_mostWorn_b17 6000 state x1 (-6) 0)
noncomputable def fX8_put_b105 : Nat → (Nat → Int32) → Int32 → Int64 → Int32 → Option (Int32 × (Nat → Int32) × Int32)
  | 0, _, _, _, _ => none
  | fuel + 1, pad, padLength, y1, y7 =>
  (if y7 < 0 then (some (padLength, pad, padLength)) else (if padLength < 0 ∨ 60 ≤ padLength.toNatClampNeg then none else fX8_put_b105 fuel (upd pad padLength.toNatClampNeg ((((lushr y1 (8 * y7)) &&& 255)).toInt32)) (padLength + 1) y1 (y7 + (-1))))
noncomputable def fX8_put_b8 : Nat → (Nat → Int32) → Int32 → Int64 → Int32 → Int64 → Int32 → Option (Int32 × (Nat → Int32) × Int32)
  | 0, _, _, _, _, _, _ => none
  | fuel + 1, pad, padLength, y1, y3, y4, y6 =>
  (if 8 ≤ y3 then (if y3 = 0 then (some ((-2), pad, padLength)) else (if y6 = 0 then (some ((-2), pad, padLength)) else (if (lg_cmp y4 0) = 0 then (if (padLength + y3) ≤ 60 then fX8_put_b105 6000 pad padLength y1 (y3 - 1) else (some ((-4), pad, padLength))) else (some ((-2), pad, padLength))))) else (if (lg_cmp (y4 &&& 255) 0) = 0 then (if y3 = 0 then (some ((-2), pad, padLength)) else (if y6 = 0 then (some ((-2), pad, padLength)) else (if (lg_cmp y4 0) = 0 then (if (padLength + y3) ≤ 60 then fX8_put_b105 6000 pad padLength y1 (y3 - 1) else (some ((-4), pad, padLength))) else (some ((-2), pad, padLength))))) else (if y6 = 0 then fX8_put_b8 fuel pad padLength y1 (y3 + 1) (lushr y4 8) 0 else (if (fX8_within (((y4 &&& 255)).toInt32) 33 126) = 0 then fX8_put_b8 fuel pad padLength y1 (y3 + 1) (lushr y4 8) 0 else fX8_put_b8 fuel pad padLength y1 (y3 + 1) (lushr y4 8) 1))))
noncomputable def fX8_put (pad : Nat → Int32) (padLength : Int32) (x1 : Int64) : Option (Int32 × (Nat → Int32) × Int32) :=
  fX8_put_b8 6000 pad padLength x1 0 x1 1
noncomputable def fX8_wipe (padLength : Int32) : Option (Int32 × Int32) :=
  (some (padLength, 0))
noncomputable def fX8_character (pad : Nat → Int32) (padLength : Int32) (x1 : Int32) : Option (Int32) :=
  (if padLength ≤ x1 then (some (-1)) else (if x1 < 0 ∨ 60 ≤ x1.toNatClampNeg then none else (some (pad x1.toNatClampNeg))))
noncomputable def fX8_takes (pad : Nat → Int32) (padLength : Int32) (pos : Int32) (x1 : Int32) : Option (Int32 × Int32) :=
  ((fX8_character pad padLength pos).bind fun q1 => (if q1 = x1 then (some (1, (pos + 1))) else (some (0, (pos + 0)))))
noncomputable def fX8_takeNumber_b34 (k18 : (Nat → Int32) → Int32 → Int32 → Int32 → Int32 → Option (Int32 × Int32)) (pad : Nat → Int32) (padLength : Int32) (pos : Int32) (z0 : Int32) : Option (Int32 × Int32) :=
  ((fX8_character pad padLength pos).bind fun q1 => (if ((z0 + q1) - 48) ≤ 0 then k18 pad padLength (pos + 1) ((z0 + q1) - 48) 0 else ((fX8_character pad padLength (pos + 1)).bind fun q4 => (if (fX8_within q4 48 57) = 0 then k18 pad padLength (pos + 1) ((z0 + q1) - 48) 0 else ((fX8_character pad padLength (pos + 1)).bind fun q7 => (if 119 < (((10 * ((z0 + q1) - 48)) + q7) - 48) then k18 pad padLength (pos + 1) ((z0 + q1) - 48) 0 else k18 pad padLength (pos + 1) ((z0 + q1) - 48) 1))))))
noncomputable def fX8_takeNumber_b18 : Nat → (Nat → Int32) → Int32 → Int32 → Int32 → Int32 → Option (Int32 × Int32)
  | 0, _, _, _, _, _ => none
  | fuel + 1, pad, padLength, pos, y1, y2 =>
  (if y2 = 0 then (some (y1, pos)) else (if 0 ≤ y1 then fX8_takeNumber_b34 (fX8_takeNumber_b18 fuel) pad padLength pos (10 * y1) else fX8_takeNumber_b34 (fX8_takeNumber_b18 fuel) pad padLength pos 0))
noncomputable def fX8_takeNumber (pad : Nat → Int32) (padLength : Int32) (pos : Int32) : Option (Int32 × Int32) :=
  ((fX8_character pad padLength pos).bind fun q12 => fX8_takeNumber_b18 6000 pad padLength pos (-1) (fX8_within q12 48 57))
noncomputable def fX8_isOrder (x0 : Int32) : Int32 :=
  (if x0 = 107 then (1) else (if x0 = 98 then (1) else (if x0 = 114 then (1) else (if x0 = 120 then (1) else (if x0 = 121 then (1) else (if x0 = 99 then (1) else (0)))))))
noncomputable def fX8_readsOrder_b60 (pad : Nat → Int32) (padLength : Int32) (pos : Int32) (letter : Int32) (first : Int32) (second : Int32) : Option (Int32 × Int32 × Int32 × Int32 × Int32) :=
  ((fX8_takeNumber pad padLength pos).bind fun q1 => (if q1.1 < 0 then (if q1.1 < 0 then (some (0, q1.2, letter, q1.1, second)) else (some (1, q1.2, letter, q1.1, second))) else (if letter = 99 then ((fX8_takes pad padLength q1.2 64).bind fun q6 => (if q6.1 = 0 then (some (0, q6.2, letter, q1.1, second)) else ((fX8_character pad padLength q6.2).bind fun q9 => (if (fX8_within q9 48 50) = 0 then (some (0, q6.2, letter, q1.1, second)) else ((fX8_character pad padLength q6.2).bind fun q12 => (some (1, (q6.2 + 1), letter, q1.1, (q12 - 48)))))))) else (if q1.1 < 0 then (some (0, q1.2, letter, q1.1, second)) else (some (1, q1.2, letter, q1.1, second))))))
noncomputable def fX8_readsOrder (pad : Nat → Int32) (padLength : Int32) (pos : Int32) (letter : Int32) (first : Int32) (second : Int32) : Option (Int32 × Int32 × Int32 × Int32 × Int32) :=
  ((fX8_character pad padLength pos).bind fun q15 => (if (fX8_isOrder q15) = 0 then (some (0, pos, q15, first, second)) else (if q15 = 107 then ((fX8_takes pad padLength (pos + 1) 45).bind fun q19 => (if q19.1 = 0 then fX8_readsOrder_b60 pad padLength q19.2 q15 first second else (some (1, q19.2, q15, (-6), second)))) else fX8_readsOrder_b60 pad padLength (pos + 1) q15 first second)))
noncomputable def fX8_findFault_b5 : Nat → (Nat → Int32) → Int32 → Int32 → Int32 → Int32 → Int32 → Option (Int32 × Int32 × Int32 × Int32 × Int32)
  | 0, _, _, _, _, _, _ => none
  | fuel + 1, pad, padLength, pos, letter, first, second =>
  ((fX8_readsOrder pad padLength pos letter first second).bind fun q1 => (if q1.1 = 0 then (some (q1.2.1, q1.2.1, q1.2.2.1, q1.2.2.2.1, q1.2.2.2.2)) else (if q1.2.1 = padLength then (some ((-6), q1.2.1, q1.2.2.1, q1.2.2.2.1, q1.2.2.2.2)) else ((fX8_takes pad padLength q1.2.1 59).bind fun q5 => (if q5.1 = 0 then (some (q5.2, q5.2, q1.2.2.1, q1.2.2.2.1, q1.2.2.2.2)) else fX8_findFault_b5 fuel pad padLength q5.2 q1.2.2.1 q1.2.2.2.1 q1.2.2.2.2)))))
noncomputable def fX8_findFault (pad : Nat → Int32) (padLength : Int32) (pos : Int32) (letter : Int32) (first : Int32) (second : Int32) : Option (Int32 × Int32 × Int32 × Int32 × Int32) :=
  fX8_findFault_b5 6000 pad padLength 0 letter first second
noncomputable def fX8_fault (pad : Nat → Int32) (padLength : Int32) (pos : Int32) (letter : Int32) (first : Int32) (second : Int32) : Option (Int32 × Int32 × Int32 × Int32 × Int32) :=
  ((fX8_findFault pad padLength pos letter first second).bind fun q1 => (some (q1.1, q1.2.1, q1.2.2.1, q1.2.2.2.1, q1.2.2.2.2)))
noncomputable def fX8_whyNotDone (state : Nat → Int32) (letter : Int32) (first : Int32) (second : Int32) : Option (Int32) :=
  (if letter = 98 then ((fX8_whyNoBox state first).bind fun q2 => (some q2)) else (if letter = 107 then ((fX8_whyNoKey state first).bind fun q5 => (some q5)) else (if letter = 114 then ((fX8_whyNotRenewed state first).bind fun q8 => (some q8)) else (if letter = 120 then ((fX8_whyKeyNotThrown state first).bind fun q11 => (some q11)) else (if letter = 121 then ((fX8_whyBoxNotThrown state first).bind fun q14 => (some q14)) else ((fX8_whyNoCopy state first second).bind fun q16 => (some q16)))))))
noncomputable def fX8_does (state : Nat → Int32) (letter : Int32) (first : Int32) (second : Int32) : Option ((Nat → Int32)) :=
  (if letter = 98 then ((fX8_makeBox state first).bind fun q2 => (some q2.2)) else (if letter = 107 then ((fX8_makeKey state first).bind fun q5 => (some q5.2)) else (if letter = 114 then ((fX8_renewed state first).bind fun q8 => (some q8.2)) else (if letter = 120 then ((fX8_keyThrown state first).bind fun q11 => (some q11.2)) else (if letter = 121 then ((fX8_boxThrown state first).bind fun q14 => (some q14.2)) else ((fX8_copied state first second).bind fun q16 => (some q16.2)))))))
noncomputable def fX8_carryOut_b25 : Nat → (Nat → Int32) → (Nat → Int32) → Int32 → (Nat → Int32) → Int32 → Int32 → Int32 → Int32 → Int32 → Int32 → Int32 → Option (Int32 × (Nat → Int32) × (Nat → Int32) × Int32 × Int32 × Int32 × Int32 × Int32 × Int32)
  | 0, _, _, _, _, _, _, _, _, _, _, _ => none
  | fuel + 1, state, history, recorded, pad, padLength, pos, letter, first, second, y1, y2 =>
  (if y2 = 0 then (some (y1, state, history, recorded, 0, pos, letter, first, second)) else (if padLength ≤ pos then (some (y1, state, history, recorded, 0, pos, letter, first, second)) else ((fX8_readsOrder pad padLength pos letter first second).bind fun q3 => ((fX8_takes pad padLength q3.2.1 59).bind fun q5 => ((fX8_whyNotDone state q3.2.2.1 q3.2.2.2.1 q3.2.2.2.2).bind fun q7 => (if q7 = 0 then ((fX8_does state q3.2.2.1 q3.2.2.2.1 q3.2.2.2.2).bind fun q12 => fX8_carryOut_b25 fuel q12 history recorded pad padLength q5.2 q3.2.2.1 q3.2.2.2.1 q3.2.2.2.2 (y1 + 1) 1) else fX8_carryOut_b25 fuel state history recorded pad padLength q5.2 q3.2.2.1 q3.2.2.2.1 q3.2.2.2.2 y1 0))))))
noncomputable def fX8_carryOut (state : Nat → Int32) (history : Nat → Int32) (recorded : Int32) (pad : Nat → Int32) (padLength : Int32) (pos : Int32) (letter : Int32) (first : Int32) (second : Int32) : Option (Int32 × (Nat → Int32) × (Nat → Int32) × Int32 × Int32 × Int32 × Int32 × Int32 × Int32) :=
  ((fX8_findFault pad padLength pos letter first second).bind fun q14 => (if q14.1 = (-6) then ((fX8_record state history recorded).bind fun q17 => fX8_carryOut_b25 6000 state q17.1 q17.2 pad padLength 0 q14.2.2.1 q14.2.2.2.1 q14.2.2.2.2 0 1) else (some ((-3), state, history, recorded, padLength, q14.2.1, q14.2.2.1, q14.2.2.2.1, q14.2.2.2.2))))
noncomputable def fX8_undo (state : Nat → Int32) (history : Nat → Int32) (recorded : Int32) : Option (Int32 × (Nat → Int32) × Int32) :=
  (if recorded = 0 then (some ((-5), state, recorded)) else ((fX8_moves 5064 844 history state ((recorded - 1) * 844) 0).bind fun q2 => (some ((recorded - 1), q2, (recorded - 1)))))
noncomputable def fX8_save (state : Nat → Int32) (slots : Nat → Int32) (isSaved : Nat → Int32) (x1 : Int32) : Option (Int32 × (Nat → Int32) × (Nat → Int32)) :=
  (if (fX8_within x1 0 1) = 0 then (some ((-2), slots, isSaved)) else ((fX8_moves 844 1688 state slots 0 (844 * x1)).bind fun q2 => (if x1 < 0 ∨ 2 ≤ x1.toNatClampNeg then none else (if (1 : Int32) < 0 ∨ 844 ≤ (1 : Int32).toNatClampNeg then none else (some ((state (1 : Int32).toNatClampNeg), q2, (upd isSaved x1.toNatClampNeg 1)))))))
noncomputable def fX8_restore (state : Nat → Int32) (history : Nat → Int32) (recorded : Int32) (slots : Nat → Int32) (isSaved : Nat → Int32) (x1 : Int32) : Option (Int32 × (Nat → Int32) × (Nat → Int32) × Int32) :=
  (if (fX8_within x1 0 1) = 0 then (some ((-2), state, history, recorded)) else (if x1 < 0 ∨ 2 ≤ x1.toNatClampNeg then none else (if (isSaved x1.toNatClampNeg) = 0 then (some ((-5), state, history, recorded)) else ((fX8_record state history recorded).bind fun q4 => ((fX8_moves 1688 844 slots state (844 * x1) 0).bind fun q6 => (if (1 : Int32) < 0 ∨ 844 ≤ (1 : Int32).toNatClampNeg then none else (some ((q6 (1 : Int32).toNatClampNeg), q6, q4.1, q4.2))))))))
