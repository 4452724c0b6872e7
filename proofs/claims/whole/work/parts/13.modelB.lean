/-! the reference -/
noncomputable def fX8_burns_b46 (k2 : (Nat → Int32) → Int32 → Option ((Nat → Int32))) (state : Nat → Int32) (y1 : Int32) (y2 : Int32) (z0 : Int32) : Option ((Nat → Int32)) :=
  (if y2 = (-6) then (if z0 = 0 then ((fX8_wrapPart state y1 1).bind fun q25 => ((fX8_boxPart state q25 1).bind fun q27 => (if q27 = 0 then ((fX8_setWrap state y1 4 0).bind fun q32 => k2 q32 (y1 + 1)) else k2 state (y1 + 1)))) else ((fX8_setWrap state y1 4 0).bind fun q23 => k2 q23 (y1 + 1))) else (if z0 = 0 then ((fX8_keyPart state y2 1).bind fun q6 => (if q6 = 0 then ((fX8_setWrap state y1 4 0).bind fun q10 => k2 q10 (y1 + 1)) else ((fX8_wrapPart state y1 1).bind fun q12 => ((fX8_keyPart state y2 2).bind fun q14 => (if q14 ≤ q12 then k2 state (y1 + 1) else ((fX8_setWrap state y1 4 0).bind fun q19 => k2 q19 (y1 + 1))))))) else ((fX8_setWrap state y1 4 0).bind fun q4 => k2 q4 (y1 + 1))))

noncomputable def fX8_burns_b2 : Nat → (Nat → Int32) → Int32 → Option ((Nat → Int32))
  | 0, _, _ => none
  | fuel + 1, state, y1 =>
  (if (3 : Int32) < 0 ∨ 844 ≤ (3 : Int32).toNatClampNeg then none else (if (state (3 : Int32).toNatClampNeg) ≤ y1 then (some state) else ((fX8_wrapPart state y1 0).bind fun q36 => ((fX8_wrapPart state y1 2).bind fun q38 => ((fX8_wrapPart state y1 3).bind fun q40 => ((fX8_keyPart state q38 2).bind fun q42 => (if q42 ≤ q40 then fX8_burns_b46 (fX8_burns_b2 fuel) state y1 q36 0 else fX8_burns_b46 (fX8_burns_b2 fuel) state y1 q36 1)))))))

noncomputable def fX8_burns (state : Nat → Int32) : Option ((Nat → Int32)) :=
  fX8_burns_b2 6000 state 0
set_option maxHeartbeats 1000000 in
set_option maxRecDepth 100000 in
theorem mX8_burns (l : Launch) (dC : Nat → ClassId) (dI : Nat → Nat → Nat) (cyI cyO : ClassId) (m0 m1 m2 m3 m4 m5 m6 : Nat) (state : Nat → Int32) (history : Nat → Int32) (recorded : Int32) (slots : Nat → Int32) (isSaved : Nat → Int32) (pad : Nat → Int32) (padLength : Int32) (opened : Nat → Int32) (pos : Int32) (letter : Int32) (first : Int32) (second : Int32)  (sz : Nat) (res : (Nat → Int32)) (h : fX8_burns state = some res) : Met l yX8_burns (wsG yX8_burns cX8_burns 5 none) ({ frames := 1, cells := 0, slots := 0, locals := 23 }) (cP dC dI cyI cyO sz [.ref m0] (modelW cyI m0 m1 m2 m3 m4 m5 m6 state history recorded slots isSaved pad padLength opened pos letter first second)) (cV dC dI (modelW cyI m0 m1 m2 m3 m4 m5 m6 res history recorded slots isSaved pad padLength opened pos letter first second) (va_A (modelW cyI m0 m1 m2 m3 m4 m5 m6 state history recorded slots isSaved pad padLength opened pos letter first second) sz)) 0 0 (va_A (modelW cyI m0 m1 m2 m3 m4 m5 m6 state history recorded slots isSaved pad padLength opened pos letter first second) sz) := by
  refine Met.ofW (cc := cX8_burns) (maxL := 5) (ret := none) (by decide) rfl ?_
  intro p e s m args below meth c s₁ B hml hv
  obtain ⟨rfl, hsz, hP, hK, hD0⟩ := hv
  have hx := B.exec
  have hb := B.bytes
  have hr := B.returns
  have hts := atoms_spec (ws := wsG yX8_burns cX8_burns 5 none) B.pre
  have hown : s.vm.findClass RX8 = some m.cls := findClass_of_methodNamed B.named
  have hlocks := B.notSynchronized
  subst hsz
  have hD := hD0.self (sz := s.heap.size)
  generalize hAe : va_A (modelW cyI m0 m1 m2 m3 m4 m5 m6 state history recorded slots isSaved pad padLength opened pos letter first second) s.heap.size = A at hD ⊢
  have hA : ∀ q : Nat, s.heap.size ≤ q → A q := fun q h => by rw [← hAe]; exact Or.inr h
  have hS : va_S A s.heap s.heap [] := va_S.rf
  have kB46 : ∀ (k2 : (Nat → Int32) → Int32 → Option ((Nat → Int32))) (hk2 : ∀ (state : Nat → Int32) (y1 : Int32), k2 state y1 = some res → ∀ (H : Heap) (locs : List Loc), va_P (dC, dI) vwCl (modelW cyI m0 m1 m2 m3 m4 m5 m6 state history recorded slots isSaved pad padLength opened pos letter first second) H → va_D A (modelW cyI m0 m1 m2 m3 m4 m5 m6 state history recorded slots isSaved pad padLength opened pos letter first second) → va_S A s.heap H locs → ∀ ls : Array Slot, lv_has ls 5 [(0, .ref m0), (1, .int y1)] → W p l e (headSpec (wsG yX8_burns cX8_burns 5 none) ({ frames := 1, cells := 0, slots := 0, locals := 23 })).room s m (([.ref m0] : List Value).toArray) below meth c H locs 0 0 (MQ below (cV dC dI (modelW cyI m0 m1 m2 m3 m4 m5 m6 res history recorded slots isSaved pad padLength opened pos letter first second) A) ([.ref m0] : List Value).toArray s 0 0 A) (F0 m 2 ls [])) (state : Nat → Int32) (y1 : Int32) (y2 : Int32) (z0 : Int32), fX8_burns_b46 k2 state y1 y2 z0 = some res → ∀ (H : Heap) (locs : List Loc), va_P (dC, dI) vwCl (modelW cyI m0 m1 m2 m3 m4 m5 m6 state history recorded slots isSaved pad padLength opened pos letter first second) H → va_D A (modelW cyI m0 m1 m2 m3 m4 m5 m6 state history recorded slots isSaved pad padLength opened pos letter first second) → va_S A s.heap H locs → ∀ ls : Array Slot, lv_has ls 5 [(0, .ref m0), (1, .int y1), (2, .int y2)] → W p l e (headSpec (wsG yX8_burns cX8_burns 5 none) ({ frames := 1, cells := 0, slots := 0, locals := 23 })).room s m (([.ref m0] : List Value).toArray) below meth c H locs 0 0 (MQ below (cV dC dI (modelW cyI m0 m1 m2 m3 m4 m5 m6 res history recorded slots isSaved pad padLength opened pos letter first second) A) ([.ref m0] : List Value).toArray s 0 0 A) (F0 m 46 ls [.int z0]) := by
    intro k2 hk2 state y1 y2 z0 h H locs hP hD hS ls hl
    unfold fX8_burns_b46 at h
    refine lv_istore (lv' := [(4, .int z0), (0, .ref m0), (1, .int y1), (2, .int y2)]) hx hb dX8_burns_46 hl (by decide) rfl (fun ls hl => ?_)
    refine lv_iload_n hx hb dX8_burns_48 rfl (lv_at hl 3 rfl) ?_
    refine lv_bipush (v := (-6)) hx hb dX8_burns_49 (by decide) ?_
    refine lv_icmp_ne (tgt := 83) hx hb dX8_burns_51 (by decide) (fun c1 => ?_) (fun c1 => ?_)
    · have h := (if_neg c1).symm.trans h
      refine lv_iload hx hb dX8_burns_83 (lv_at hl 0 rfl) ?_
      refine lv_if_ne (tgt := 112) hx hb dX8_burns_85 (by decide) (fun c2 => ?_) (fun c2 => ?_)
      · have h := (if_neg c2).symm.trans h
        refine lv_iconst (v := 1) hx hb dX8_burns_112 (by decide) ?_
        refine lv_goto (tgt := 117) hx hb dX8_burns_113 (by decide) ?_
        refine lv_istore (lv' := [(4, .int 1), (0, .ref m0), (1, .int y1), (2, .int y2)]) hx hb dX8_burns_117 hl (by decide) rfl (fun ls hl => ?_)
        refine lv_iload hx hb dX8_burns_119 (lv_at hl 0 rfl) ?_
        refine lv_if_eq (tgt := 131) hx hb dX8_burns_121 (by decide) (fun c3 => ?_) (fun c3 => ?_)
        · exact absurd c3 (by decide)
        · refine lv_aload_n hx hb dX8_burns_124 rfl (lv_at hl 1 rfl) ?_
          refine lv_iload_n hx hb dX8_burns_125 rfl (lv_at hl 2 rfl) ?_
          refine lv_iconst (v := 4) hx hb dX8_burns_126 (by decide) ?_
          refine lv_iconst (v := 0) hx hb dX8_burns_127 (by decide) ?_
          obtain ⟨q4, e5, h⟩ := ob h
          refine fr_v (M := (modelW cyI m0 m1 m2 m3 m4 m5 m6 state history recorded slots isSaved pad padLength opened pos letter first second)) (M' := (modelW cyI m0 m1 m2 m3 m4 m5 m6 q4 history recorded slots isSaved pad padLength opened pos letter first second)) (L' := (modelW cyI m0 m1 m2 m3 m4 m5 m6 q4 history recorded slots isSaved pad padLength opened pos letter first second)) (va_runV (As := [.int y1, .int 4, .int 0]) (rest := []) ⟨hx, hb, hml, hown, hts⟩ (mX8_setWrap l dC dI cyI cyO m0 m1 m2 m3 m4 m5 m6 state history recorded slots isSaved pad padLength opened pos letter first second y1 4 0 _ q4 e5) (cwV 3 hts (gV ml_X8_64 im_X8_setWrap se_X8_setWrap in_X8 co_X8_setWrap) rfl rfl rfl (by decide +kernel) ⟨Nat.le_of_ble_eq_true rfl, Nat.le_of_ble_eq_true rfl⟩) (cP_V hK hP hD [0, 1, 2, 3, 4, 5, 6] rfl rfl 0 rfl rfl) rfl rfl hl.1 rfl (lv_room (Nat.le_of_ble_eq_true rfl)) dX8_burns_128 ⟨Nat.zero_le _, Nat.zero_le _⟩) hP hD hS hA [0, 1, 2, 3, 4, 5, 6] rfl [(true, 0), (true, 1), (true, 2), (true, 3), (true, 4), (true, 5), (true, 6)] rfl rfl rfl (fun H locs hP hD hS => ?_)
          refine lv_iinc (v := (y1 + 1)) (lv' := [(1, .int (y1 + 1)), (4, .int 1), (0, .ref m0), (2, .int y2)]) hx hb dX8_burns_131 hl (k := 2) rfl rfl (by decide) rfl (fun ls hl => ?_)
          refine lv_goto (tgt := 2) hx hb dX8_burns_134 (by decide) ?_
          exact hk2 q4 (y1 + 1) h _ _ hP hD hS ls (lv_sub hl [2, 0] rfl)
      · have h := (if_pos c2).symm.trans h
        refine lv_aload_n hx hb dX8_burns_88 rfl (lv_at hl 1 rfl) ?_
        refine lv_iload_n hx hb dX8_burns_89 rfl (lv_at hl 3 rfl) ?_
        refine lv_iconst (v := 1) hx hb dX8_burns_90 (by decide) ?_
        obtain ⟨q6, e7, h⟩ := ob h
        refine fr_ir (M := (modelW cyI m0 m1 m2 m3 m4 m5 m6 state history recorded slots isSaved pad padLength opened pos letter first second)) (va_runV (As := [.int y2, .int 1]) (rest := []) ⟨hx, hb, hml, hown, hts⟩ (mX8_keyPart l dC dI cyI cyO m0 m1 m2 m3 m4 m5 m6 state history recorded slots isSaved pad padLength opened pos letter first second y2 1 _ q6 e7) (cwV 2 hts (gV ml_X8_44 im_X8_keyPart se_X8_keyPart in_X8 co_X8_keyPart) rfl rfl rfl (by decide +kernel) ⟨Nat.le_of_ble_eq_true rfl, Nat.le_of_ble_eq_true rfl⟩) (cP_V hK hP hD [0, 1, 2, 3, 4, 5, 6] rfl rfl 0 rfl rfl) rfl rfl hl.1 rfl (lv_room (Nat.le_of_ble_eq_true rfl)) dX8_burns_91 ⟨Nat.zero_le _, Nat.zero_le _⟩) hP hD hS hA [0, 1, 2, 3, 4, 5, 6] rfl (fun H locs hP hS => ?_)
        refine lv_if_eq (tgt := 112) hx hb dX8_burns_94 (by decide) (fun c8 => ?_) (fun c8 => ?_)
        · have h := (if_pos c8).symm.trans h
          refine lv_iconst (v := 1) hx hb dX8_burns_112 (by decide) ?_
          refine lv_goto (tgt := 117) hx hb dX8_burns_113 (by decide) ?_
          refine lv_istore (lv' := [(4, .int 1), (0, .ref m0), (1, .int y1), (2, .int y2)]) hx hb dX8_burns_117 hl (by decide) rfl (fun ls hl => ?_)
          refine lv_iload hx hb dX8_burns_119 (lv_at hl 0 rfl) ?_
          refine lv_if_eq (tgt := 131) hx hb dX8_burns_121 (by decide) (fun c9 => ?_) (fun c9 => ?_)
          · exact absurd c9 (by decide)
          · refine lv_aload_n hx hb dX8_burns_124 rfl (lv_at hl 1 rfl) ?_
            refine lv_iload_n hx hb dX8_burns_125 rfl (lv_at hl 2 rfl) ?_
            refine lv_iconst (v := 4) hx hb dX8_burns_126 (by decide) ?_
            refine lv_iconst (v := 0) hx hb dX8_burns_127 (by decide) ?_
            obtain ⟨q10, e11, h⟩ := ob h
            refine fr_v (M := (modelW cyI m0 m1 m2 m3 m4 m5 m6 state history recorded slots isSaved pad padLength opened pos letter first second)) (M' := (modelW cyI m0 m1 m2 m3 m4 m5 m6 q10 history recorded slots isSaved pad padLength opened pos letter first second)) (L' := (modelW cyI m0 m1 m2 m3 m4 m5 m6 q10 history recorded slots isSaved pad padLength opened pos letter first second)) (va_runV (As := [.int y1, .int 4, .int 0]) (rest := []) ⟨hx, hb, hml, hown, hts⟩ (mX8_setWrap l dC dI cyI cyO m0 m1 m2 m3 m4 m5 m6 state history recorded slots isSaved pad padLength opened pos letter first second y1 4 0 _ q10 e11) (cwV 3 hts (gV ml_X8_64 im_X8_setWrap se_X8_setWrap in_X8 co_X8_setWrap) rfl rfl rfl (by decide +kernel) ⟨Nat.le_of_ble_eq_true rfl, Nat.le_of_ble_eq_true rfl⟩) (cP_V hK hP hD [0, 1, 2, 3, 4, 5, 6] rfl rfl 0 rfl rfl) rfl rfl hl.1 rfl (lv_room (Nat.le_of_ble_eq_true rfl)) dX8_burns_128 ⟨Nat.zero_le _, Nat.zero_le _⟩) hP hD hS hA [0, 1, 2, 3, 4, 5, 6] rfl [(true, 0), (true, 1), (true, 2), (true, 3), (true, 4), (true, 5), (true, 6)] rfl rfl rfl (fun H locs hP hD hS => ?_)
            refine lv_iinc (v := (y1 + 1)) (lv' := [(1, .int (y1 + 1)), (4, .int 1), (0, .ref m0), (2, .int y2)]) hx hb dX8_burns_131 hl (k := 2) rfl rfl (by decide) rfl (fun ls hl => ?_)
            refine lv_goto (tgt := 2) hx hb dX8_burns_134 (by decide) ?_
            exact hk2 q10 (y1 + 1) h _ _ hP hD hS ls (lv_sub hl [2, 0] rfl)
        · have h := (if_neg c8).symm.trans h
          refine lv_aload_n hx hb dX8_burns_97 rfl (lv_at hl 1 rfl) ?_
          refine lv_iload_n hx hb dX8_burns_98 rfl (lv_at hl 2 rfl) ?_
          refine lv_iconst (v := 1) hx hb dX8_burns_99 (by decide) ?_
          obtain ⟨q12, e13, h⟩ := ob h
          refine fr_ir (M := (modelW cyI m0 m1 m2 m3 m4 m5 m6 state history recorded slots isSaved pad padLength opened pos letter first second)) (va_runV (As := [.int y1, .int 1]) (rest := []) ⟨hx, hb, hml, hown, hts⟩ (mX8_wrapPart l dC dI cyI cyO m0 m1 m2 m3 m4 m5 m6 state history recorded slots isSaved pad padLength opened pos letter first second y1 1 _ q12 e13) (cwV 2 hts (gV ml_X8_81 im_X8_wrapPart se_X8_wrapPart in_X8 co_X8_wrapPart) rfl rfl rfl (by decide +kernel) ⟨Nat.le_of_ble_eq_true rfl, Nat.le_of_ble_eq_true rfl⟩) (cP_V hK hP hD [0, 1, 2, 3, 4, 5, 6] rfl rfl 0 rfl rfl) rfl rfl hl.1 rfl (lv_room (Nat.le_of_ble_eq_true rfl)) dX8_burns_100 ⟨Nat.zero_le _, Nat.zero_le _⟩) hP hD hS hA [0, 1, 2, 3, 4, 5, 6] rfl (fun H locs hP hS => ?_)
          refine lv_aload_n hx hb dX8_burns_103 rfl (lv_at hl 1 rfl) ?_
          refine lv_iload_n hx hb dX8_burns_104 rfl (lv_at hl 3 rfl) ?_
          refine lv_iconst (v := 2) hx hb dX8_burns_105 (by decide) ?_
          obtain ⟨q14, e15, h⟩ := ob h
          refine fr_ir (M := (modelW cyI m0 m1 m2 m3 m4 m5 m6 state history recorded slots isSaved pad padLength opened pos letter first second)) (va_runV (As := [.int y2, .int 2]) (rest := [.int q12]) ⟨hx, hb, hml, hown, hts⟩ (mX8_keyPart l dC dI cyI cyO m0 m1 m2 m3 m4 m5 m6 state history recorded slots isSaved pad padLength opened pos letter first second y2 2 _ q14 e15) (cwV 2 hts (gV ml_X8_44 im_X8_keyPart se_X8_keyPart in_X8 co_X8_keyPart) rfl rfl rfl (by decide +kernel) ⟨Nat.le_of_ble_eq_true rfl, Nat.le_of_ble_eq_true rfl⟩) (cP_V hK hP hD [0, 1, 2, 3, 4, 5, 6] rfl rfl 0 rfl rfl) rfl rfl hl.1 rfl (lv_room (Nat.le_of_ble_eq_true rfl)) dX8_burns_106 ⟨Nat.zero_le _, Nat.zero_le _⟩) hP hD hS hA [0, 1, 2, 3, 4, 5, 6] rfl (fun H locs hP hS => ?_)
          refine lv_icmp_ge (tgt := 116) hx hb dX8_burns_109 (by decide) (fun c16 => ?_) (fun c16 => ?_)
          · have h := (if_pos c16).symm.trans h
            refine lv_iconst (v := 0) hx hb dX8_burns_116 (by decide) ?_
            refine lv_istore (lv' := [(4, .int 0), (0, .ref m0), (1, .int y1), (2, .int y2)]) hx hb dX8_burns_117 hl (by decide) rfl (fun ls hl => ?_)
            refine lv_iload hx hb dX8_burns_119 (lv_at hl 0 rfl) ?_
            refine lv_if_eq (tgt := 131) hx hb dX8_burns_121 (by decide) (fun c17 => ?_) (fun c17 => ?_)
            · refine lv_iinc (v := (y1 + 1)) (lv' := [(1, .int (y1 + 1)), (4, .int 0), (0, .ref m0), (2, .int y2)]) hx hb dX8_burns_131 hl (k := 2) rfl rfl (by decide) rfl (fun ls hl => ?_)
              refine lv_goto (tgt := 2) hx hb dX8_burns_134 (by decide) ?_
              exact hk2 state (y1 + 1) h _ _ hP hD hS ls (lv_sub hl [2, 0] rfl)
            · exact absurd c17 (by decide)
          · have h := (if_neg c16).symm.trans h
            refine lv_iconst (v := 1) hx hb dX8_burns_112 (by decide) ?_
            refine lv_goto (tgt := 117) hx hb dX8_burns_113 (by decide) ?_
            refine lv_istore (lv' := [(4, .int 1), (0, .ref m0), (1, .int y1), (2, .int y2)]) hx hb dX8_burns_117 hl (by decide) rfl (fun ls hl => ?_)
            refine lv_iload hx hb dX8_burns_119 (lv_at hl 0 rfl) ?_
            refine lv_if_eq (tgt := 131) hx hb dX8_burns_121 (by decide) (fun c18 => ?_) (fun c18 => ?_)
            · exact absurd c18 (by decide)
            · refine lv_aload_n hx hb dX8_burns_124 rfl (lv_at hl 1 rfl) ?_
              refine lv_iload_n hx hb dX8_burns_125 rfl (lv_at hl 2 rfl) ?_
              refine lv_iconst (v := 4) hx hb dX8_burns_126 (by decide) ?_
              refine lv_iconst (v := 0) hx hb dX8_burns_127 (by decide) ?_
              obtain ⟨q19, e20, h⟩ := ob h
              refine fr_v (M := (modelW cyI m0 m1 m2 m3 m4 m5 m6 state history recorded slots isSaved pad padLength opened pos letter first second)) (M' := (modelW cyI m0 m1 m2 m3 m4 m5 m6 q19 history recorded slots isSaved pad padLength opened pos letter first second)) (L' := (modelW cyI m0 m1 m2 m3 m4 m5 m6 q19 history recorded slots isSaved pad padLength opened pos letter first second)) (va_runV (As := [.int y1, .int 4, .int 0]) (rest := []) ⟨hx, hb, hml, hown, hts⟩ (mX8_setWrap l dC dI cyI cyO m0 m1 m2 m3 m4 m5 m6 state history recorded slots isSaved pad padLength opened pos letter first second y1 4 0 _ q19 e20) (cwV 3 hts (gV ml_X8_64 im_X8_setWrap se_X8_setWrap in_X8 co_X8_setWrap) rfl rfl rfl (by decide +kernel) ⟨Nat.le_of_ble_eq_true rfl, Nat.le_of_ble_eq_true rfl⟩) (cP_V hK hP hD [0, 1, 2, 3, 4, 5, 6] rfl rfl 0 rfl rfl) rfl rfl hl.1 rfl (lv_room (Nat.le_of_ble_eq_true rfl)) dX8_burns_128 ⟨Nat.zero_le _, Nat.zero_le _⟩) hP hD hS hA [0, 1, 2, 3, 4, 5, 6] rfl [(true, 0), (true, 1), (true, 2), (true, 3), (true, 4), (true, 5), (true, 6)] rfl rfl rfl (fun H locs hP hD hS => ?_)
              refine lv_iinc (v := (y1 + 1)) (lv' := [(1, .int (y1 + 1)), (4, .int 1), (0, .ref m0), (2, .int y2)]) hx hb dX8_burns_131 hl (k := 2) rfl rfl (by decide) rfl (fun ls hl => ?_)
              refine lv_goto (tgt := 2) hx hb dX8_burns_134 (by decide) ?_
              exact hk2 q19 (y1 + 1) h _ _ hP hD hS ls (lv_sub hl [2, 0] rfl)
    · have h := (if_pos c1).symm.trans h
      refine lv_iload hx hb dX8_burns_54 (lv_at hl 0 rfl) ?_
      refine lv_if_ne (tgt := 73) hx hb dX8_burns_56 (by decide) (fun c21 => ?_) (fun c21 => ?_)
      · have h := (if_neg c21).symm.trans h
        refine lv_iconst (v := 1) hx hb dX8_burns_73 (by decide) ?_
        refine lv_goto (tgt := 78) hx hb dX8_burns_74 (by decide) ?_
        refine lv_istore (lv' := [(4, .int 1), (0, .ref m0), (1, .int y1), (2, .int y2)]) hx hb dX8_burns_78 hl (by decide) rfl (fun ls hl => ?_)
        refine lv_goto (tgt := 119) hx hb dX8_burns_80 (by decide) ?_
        refine lv_iload hx hb dX8_burns_119 (lv_at hl 0 rfl) ?_
        refine lv_if_eq (tgt := 131) hx hb dX8_burns_121 (by decide) (fun c22 => ?_) (fun c22 => ?_)
        · exact absurd c22 (by decide)
        · refine lv_aload_n hx hb dX8_burns_124 rfl (lv_at hl 1 rfl) ?_
          refine lv_iload_n hx hb dX8_burns_125 rfl (lv_at hl 2 rfl) ?_
          refine lv_iconst (v := 4) hx hb dX8_burns_126 (by decide) ?_
          refine lv_iconst (v := 0) hx hb dX8_burns_127 (by decide) ?_
          obtain ⟨q23, e24, h⟩ := ob h
          refine fr_v (M := (modelW cyI m0 m1 m2 m3 m4 m5 m6 state history recorded slots isSaved pad padLength opened pos letter first second)) (M' := (modelW cyI m0 m1 m2 m3 m4 m5 m6 q23 history recorded slots isSaved pad padLength opened pos letter first second)) (L' := (modelW cyI m0 m1 m2 m3 m4 m5 m6 q23 history recorded slots isSaved pad padLength opened pos letter first second)) (va_runV (As := [.int y1, .int 4, .int 0]) (rest := []) ⟨hx, hb, hml, hown, hts⟩ (mX8_setWrap l dC dI cyI cyO m0 m1 m2 m3 m4 m5 m6 state history recorded slots isSaved pad padLength opened pos letter first second y1 4 0 _ q23 e24) (cwV 3 hts (gV ml_X8_64 im_X8_setWrap se_X8_setWrap in_X8 co_X8_setWrap) rfl rfl rfl (by decide +kernel) ⟨Nat.le_of_ble_eq_true rfl, Nat.le_of_ble_eq_true rfl⟩) (cP_V hK hP hD [0, 1, 2, 3, 4, 5, 6] rfl rfl 0 rfl rfl) rfl rfl hl.1 rfl (lv_room (Nat.le_of_ble_eq_true rfl)) dX8_burns_128 ⟨Nat.zero_le _, Nat.zero_le _⟩) hP hD hS hA [0, 1, 2, 3, 4, 5, 6] rfl [(true, 0), (true, 1), (true, 2), (true, 3), (true, 4), (true, 5), (true, 6)] rfl rfl rfl (fun H locs hP hD hS => ?_)
          refine lv_iinc (v := (y1 + 1)) (lv' := [(1, .int (y1 + 1)), (4, .int 1), (0, .ref m0), (2, .int y2)]) hx hb dX8_burns_131 hl (k := 2) rfl rfl (by decide) rfl (fun ls hl => ?_)
          refine lv_goto (tgt := 2) hx hb dX8_burns_134 (by decide) ?_
          exact hk2 q23 (y1 + 1) h _ _ hP hD hS ls (lv_sub hl [2, 0] rfl)
      · have h := (if_pos c21).symm.trans h
        refine lv_aload_n hx hb dX8_burns_59 rfl (lv_at hl 1 rfl) ?_
        refine lv_aload_n hx hb dX8_burns_60 rfl (lv_at hl 1 rfl) ?_
        refine lv_iload_n hx hb dX8_burns_61 rfl (lv_at hl 2 rfl) ?_
        refine lv_iconst (v := 1) hx hb dX8_burns_62 (by decide) ?_
        obtain ⟨q25, e26, h⟩ := ob h
        refine fr_ir (M := (modelW cyI m0 m1 m2 m3 m4 m5 m6 state history recorded slots isSaved pad padLength opened pos letter first second)) (va_runV (As := [.int y1, .int 1]) (rest := [.ref m0]) ⟨hx, hb, hml, hown, hts⟩ (mX8_wrapPart l dC dI cyI cyO m0 m1 m2 m3 m4 m5 m6 state history recorded slots isSaved pad padLength opened pos letter first second y1 1 _ q25 e26) (cwV 2 hts (gV ml_X8_81 im_X8_wrapPart se_X8_wrapPart in_X8 co_X8_wrapPart) rfl rfl rfl (by decide +kernel) ⟨Nat.le_of_ble_eq_true rfl, Nat.le_of_ble_eq_true rfl⟩) (cP_V hK hP hD [0, 1, 2, 3, 4, 5, 6] rfl rfl 0 rfl rfl) rfl rfl hl.1 rfl (lv_room (Nat.le_of_ble_eq_true rfl)) dX8_burns_63 ⟨Nat.zero_le _, Nat.zero_le _⟩) hP hD hS hA [0, 1, 2, 3, 4, 5, 6] rfl (fun H locs hP hS => ?_)
        refine lv_iconst (v := 1) hx hb dX8_burns_66 (by decide) ?_
        obtain ⟨q27, e28, h⟩ := ob h
        refine fr_ir (M := (modelW cyI m0 m1 m2 m3 m4 m5 m6 state history recorded slots isSaved pad padLength opened pos letter first second)) (va_runV (As := [.int q25, .int 1]) (rest := []) ⟨hx, hb, hml, hown, hts⟩ (mX8_boxPart l dC dI cyI cyO m0 m1 m2 m3 m4 m5 m6 state history recorded slots isSaved pad padLength opened pos letter first second q25 1 _ q27 e28) (cwV 2 hts (gV ml_X8_51 im_X8_boxPart se_X8_boxPart in_X8 co_X8_boxPart) rfl rfl rfl (by decide +kernel) ⟨Nat.le_of_ble_eq_true rfl, Nat.le_of_ble_eq_true rfl⟩) (cP_V hK hP hD [0, 1, 2, 3, 4, 5, 6] rfl rfl 0 rfl rfl) rfl rfl hl.1 rfl (lv_room (Nat.le_of_ble_eq_true rfl)) dX8_burns_67 ⟨Nat.zero_le _, Nat.zero_le _⟩) hP hD hS hA [0, 1, 2, 3, 4, 5, 6] rfl (fun H locs hP hS => ?_)
        refine lv_if_ne (tgt := 77) hx hb dX8_burns_70 (by decide) (fun c29 => ?_) (fun c29 => ?_)
        · have h := (if_neg c29).symm.trans h
          refine lv_iconst (v := 0) hx hb dX8_burns_77 (by decide) ?_
          refine lv_istore (lv' := [(4, .int 0), (0, .ref m0), (1, .int y1), (2, .int y2)]) hx hb dX8_burns_78 hl (by decide) rfl (fun ls hl => ?_)
          refine lv_goto (tgt := 119) hx hb dX8_burns_80 (by decide) ?_
          refine lv_iload hx hb dX8_burns_119 (lv_at hl 0 rfl) ?_
          refine lv_if_eq (tgt := 131) hx hb dX8_burns_121 (by decide) (fun c30 => ?_) (fun c30 => ?_)
          · refine lv_iinc (v := (y1 + 1)) (lv' := [(1, .int (y1 + 1)), (4, .int 0), (0, .ref m0), (2, .int y2)]) hx hb dX8_burns_131 hl (k := 2) rfl rfl (by decide) rfl (fun ls hl => ?_)
            refine lv_goto (tgt := 2) hx hb dX8_burns_134 (by decide) ?_
            exact hk2 state (y1 + 1) h _ _ hP hD hS ls (lv_sub hl [2, 0] rfl)
          · exact absurd c30 (by decide)
        · have h := (if_pos c29).symm.trans h
          refine lv_iconst (v := 1) hx hb dX8_burns_73 (by decide) ?_
          refine lv_goto (tgt := 78) hx hb dX8_burns_74 (by decide) ?_
          refine lv_istore (lv' := [(4, .int 1), (0, .ref m0), (1, .int y1), (2, .int y2)]) hx hb dX8_burns_78 hl (by decide) rfl (fun ls hl => ?_)
          refine lv_goto (tgt := 119) hx hb dX8_burns_80 (by decide) ?_
          refine lv_iload hx hb dX8_burns_119 (lv_at hl 0 rfl) ?_
          refine lv_if_eq (tgt := 131) hx hb dX8_burns_121 (by decide) (fun c31 => ?_) (fun c31 => ?_)
          · exact absurd c31 (by decide)
          · refine lv_aload_n hx hb dX8_burns_124 rfl (lv_at hl 1 rfl) ?_
            refine lv_iload_n hx hb dX8_burns_125 rfl (lv_at hl 2 rfl) ?_
            refine lv_iconst (v := 4) hx hb dX8_burns_126 (by decide) ?_
            refine lv_iconst (v := 0) hx hb dX8_burns_127 (by decide) ?_
            obtain ⟨q32, e33, h⟩ := ob h
            refine fr_v (M := (modelW cyI m0 m1 m2 m3 m4 m5 m6 state history recorded slots isSaved pad padLength opened pos letter first second)) (M' := (modelW cyI m0 m1 m2 m3 m4 m5 m6 q32 history recorded slots isSaved pad padLength opened pos letter first second)) (L' := (modelW cyI m0 m1 m2 m3 m4 m5 m6 q32 history recorded slots isSaved pad padLength opened pos letter first second)) (va_runV (As := [.int y1, .int 4, .int 0]) (rest := []) ⟨hx, hb, hml, hown, hts⟩ (mX8_setWrap l dC dI cyI cyO m0 m1 m2 m3 m4 m5 m6 state history recorded slots isSaved pad padLength opened pos letter first second y1 4 0 _ q32 e33) (cwV 3 hts (gV ml_X8_64 im_X8_setWrap se_X8_setWrap in_X8 co_X8_setWrap) rfl rfl rfl (by decide +kernel) ⟨Nat.le_of_ble_eq_true rfl, Nat.le_of_ble_eq_true rfl⟩) (cP_V hK hP hD [0, 1, 2, 3, 4, 5, 6] rfl rfl 0 rfl rfl) rfl rfl hl.1 rfl (lv_room (Nat.le_of_ble_eq_true rfl)) dX8_burns_128 ⟨Nat.zero_le _, Nat.zero_le _⟩) hP hD hS hA [0, 1, 2, 3, 4, 5, 6] rfl [(true, 0), (true, 1), (true, 2), (true, 3), (true, 4), (true, 5), (true, 6)] rfl rfl rfl (fun H locs hP hD hS => ?_)
            refine lv_iinc (v := (y1 + 1)) (lv' := [(1, .int (y1 + 1)), (4, .int 1), (0, .ref m0), (2, .int y2)]) hx hb dX8_burns_131 hl (k := 2) rfl rfl (by decide) rfl (fun ls hl => ?_)
            refine lv_goto (tgt := 2) hx hb dX8_burns_134 (by decide) ?_
            exact hk2 q32 (y1 + 1) h _ _ hP hD hS ls (lv_sub hl [2, 0] rfl)
  have kB2 : ∀ (fuel : Nat) (state : Nat → Int32) (y1 : Int32), fX8_burns_b2 fuel state y1 = some res → ∀ (H : Heap) (locs : List Loc), va_P (dC, dI) vwCl (modelW cyI m0 m1 m2 m3 m4 m5 m6 state history recorded slots isSaved pad padLength opened pos letter first second) H → va_D A (modelW cyI m0 m1 m2 m3 m4 m5 m6 state history recorded slots isSaved pad padLength opened pos letter first second) → va_S A s.heap H locs → ∀ ls : Array Slot, lv_has ls 5 [(0, .ref m0), (1, .int y1)] → W p l e (headSpec (wsG yX8_burns cX8_burns 5 none) ({ frames := 1, cells := 0, slots := 0, locals := 23 })).room s m (([.ref m0] : List Value).toArray) below meth c H locs 0 0 (MQ below (cV dC dI (modelW cyI m0 m1 m2 m3 m4 m5 m6 res history recorded slots isSaved pad padLength opened pos letter first second) A) ([.ref m0] : List Value).toArray s 0 0 A) (F0 m 2 ls []) := by
    intro fuel
    induction fuel with
    | zero => intro state y1 h; rw [fX8_burns_b2] at h; cases h
    | succ fuel ih =>
      intro state y1 h H locs hP hD hS ls hl
      rw [fX8_burns_b2] at h
      refine lv_iload_n hx hb dX8_burns_2 rfl (lv_at hl 1 rfl) ?_
      refine lv_aload_n hx hb dX8_burns_3 rfl (lv_at hl 0 rfl) ?_
      refine va_get (D := (dC, dI)) (ci := 8) (v := .ref m1) (C := RX8) (T := TX8) (N := 12) hx hb hts (fun w h9 => gb_mem (lay_X8 w h9)) hown hK.1 hP 0 rfl rfl 0 (by decide) (hts _ (gb_mem fl_X8_7)) (fun _ h9 => h9) rfl dX8_burns_4 ?_
      refine lv_iconst (v := 3) hx hb dX8_burns_7 (by decide) ?_
      obtain ⟨ni34, h⟩ := ifn h
      refine va_iald hx hb hK.1 hP 1 0 rfl rfl ni34 dX8_burns_8 ?_
      refine lv_icmp_ge (tgt := 137) hx hb dX8_burns_9 (by decide) (fun c35 => ?_) (fun c35 => ?_)
      · have h := (if_pos c35).symm.trans h
        obtain rfl := Option.some.inj h
        exact e_v hx hb hr hlocks hP hS dX8_burns_137
      · have h := (if_neg c35).symm.trans h
        refine lv_aload_n hx hb dX8_burns_12 rfl (lv_at hl 0 rfl) ?_
        refine lv_iload_n hx hb dX8_burns_13 rfl (lv_at hl 1 rfl) ?_
        refine lv_iconst (v := 0) hx hb dX8_burns_14 (by decide) ?_
        obtain ⟨q36, e37, h⟩ := ob h
        refine fr_ir (M := (modelW cyI m0 m1 m2 m3 m4 m5 m6 state history recorded slots isSaved pad padLength opened pos letter first second)) (va_runV (As := [.int y1, .int 0]) (rest := []) ⟨hx, hb, hml, hown, hts⟩ (mX8_wrapPart l dC dI cyI cyO m0 m1 m2 m3 m4 m5 m6 state history recorded slots isSaved pad padLength opened pos letter first second y1 0 _ q36 e37) (cwV 2 hts (gV ml_X8_81 im_X8_wrapPart se_X8_wrapPart in_X8 co_X8_wrapPart) rfl rfl rfl (by decide +kernel) ⟨Nat.le_of_ble_eq_true rfl, Nat.le_of_ble_eq_true rfl⟩) (cP_V hK hP hD [0, 1, 2, 3, 4, 5, 6] rfl rfl 0 rfl rfl) rfl rfl hl.1 rfl (lv_room (Nat.le_of_ble_eq_true rfl)) dX8_burns_15 ⟨Nat.zero_le _, Nat.zero_le _⟩) hP hD hS hA [0, 1, 2, 3, 4, 5, 6] rfl (fun H locs hP hS => ?_)
        refine lv_istore_n (lv' := [(2, .int q36), (0, .ref m0), (1, .int y1)]) hx hb dX8_burns_18 rfl hl (by decide) rfl (fun ls hl => ?_)
        refine lv_aload_n hx hb dX8_burns_19 rfl (lv_at hl 1 rfl) ?_
        refine lv_iload_n hx hb dX8_burns_20 rfl (lv_at hl 2 rfl) ?_
        refine lv_iconst (v := 2) hx hb dX8_burns_21 (by decide) ?_
        obtain ⟨q38, e39, h⟩ := ob h
        refine fr_ir (M := (modelW cyI m0 m1 m2 m3 m4 m5 m6 state history recorded slots isSaved pad padLength opened pos letter first second)) (va_runV (As := [.int y1, .int 2]) (rest := []) ⟨hx, hb, hml, hown, hts⟩ (mX8_wrapPart l dC dI cyI cyO m0 m1 m2 m3 m4 m5 m6 state history recorded slots isSaved pad padLength opened pos letter first second y1 2 _ q38 e39) (cwV 2 hts (gV ml_X8_81 im_X8_wrapPart se_X8_wrapPart in_X8 co_X8_wrapPart) rfl rfl rfl (by decide +kernel) ⟨Nat.le_of_ble_eq_true rfl, Nat.le_of_ble_eq_true rfl⟩) (cP_V hK hP hD [0, 1, 2, 3, 4, 5, 6] rfl rfl 0 rfl rfl) rfl rfl hl.1 rfl (lv_room (Nat.le_of_ble_eq_true rfl)) dX8_burns_22 ⟨Nat.zero_le _, Nat.zero_le _⟩) hP hD hS hA [0, 1, 2, 3, 4, 5, 6] rfl (fun H locs hP hS => ?_)
        refine lv_istore_n (lv' := [(3, .int q38), (2, .int q36), (0, .ref m0), (1, .int y1)]) hx hb dX8_burns_25 rfl hl (by decide) rfl (fun ls hl => ?_)
        refine lv_aload_n hx hb dX8_burns_26 rfl (lv_at hl 2 rfl) ?_
        refine lv_iload_n hx hb dX8_burns_27 rfl (lv_at hl 3 rfl) ?_
        refine lv_iconst (v := 3) hx hb dX8_burns_28 (by decide) ?_
        obtain ⟨q40, e41, h⟩ := ob h
        refine fr_ir (M := (modelW cyI m0 m1 m2 m3 m4 m5 m6 state history recorded slots isSaved pad padLength opened pos letter first second)) (va_runV (As := [.int y1, .int 3]) (rest := []) ⟨hx, hb, hml, hown, hts⟩ (mX8_wrapPart l dC dI cyI cyO m0 m1 m2 m3 m4 m5 m6 state history recorded slots isSaved pad padLength opened pos letter first second y1 3 _ q40 e41) (cwV 2 hts (gV ml_X8_81 im_X8_wrapPart se_X8_wrapPart in_X8 co_X8_wrapPart) rfl rfl rfl (by decide +kernel) ⟨Nat.le_of_ble_eq_true rfl, Nat.le_of_ble_eq_true rfl⟩) (cP_V hK hP hD [0, 1, 2, 3, 4, 5, 6] rfl rfl 0 rfl rfl) rfl rfl hl.1 rfl (lv_room (Nat.le_of_ble_eq_true rfl)) dX8_burns_29 ⟨Nat.zero_le _, Nat.zero_le _⟩) hP hD hS hA [0, 1, 2, 3, 4, 5, 6] rfl (fun H locs hP hS => ?_)
        refine lv_aload_n hx hb dX8_burns_32 rfl (lv_at hl 2 rfl) ?_
        refine lv_iload_n hx hb dX8_burns_33 rfl (lv_at hl 0 rfl) ?_
        refine lv_iconst (v := 2) hx hb dX8_burns_34 (by decide) ?_
        obtain ⟨q42, e43, h⟩ := ob h
        refine fr_ir (M := (modelW cyI m0 m1 m2 m3 m4 m5 m6 state history recorded slots isSaved pad padLength opened pos letter first second)) (va_runV (As := [.int q38, .int 2]) (rest := [.int q40]) ⟨hx, hb, hml, hown, hts⟩ (mX8_keyPart l dC dI cyI cyO m0 m1 m2 m3 m4 m5 m6 state history recorded slots isSaved pad padLength opened pos letter first second q38 2 _ q42 e43) (cwV 2 hts (gV ml_X8_44 im_X8_keyPart se_X8_keyPart in_X8 co_X8_keyPart) rfl rfl rfl (by decide +kernel) ⟨Nat.le_of_ble_eq_true rfl, Nat.le_of_ble_eq_true rfl⟩) (cP_V hK hP hD [0, 1, 2, 3, 4, 5, 6] rfl rfl 0 rfl rfl) rfl rfl hl.1 rfl (lv_room (Nat.le_of_ble_eq_true rfl)) dX8_burns_35 ⟨Nat.zero_le _, Nat.zero_le _⟩) hP hD hS hA [0, 1, 2, 3, 4, 5, 6] rfl (fun H locs hP hS => ?_)
        refine lv_icmp_ge (tgt := 45) hx hb dX8_burns_38 (by decide) (fun c44 => ?_) (fun c44 => ?_)
        · have h := (if_pos c44).symm.trans h
          refine lv_iconst (v := 0) hx hb dX8_burns_45 (by decide) ?_
          exact kB46 (fX8_burns_b2 fuel) ih state y1 q36 0 h _ _ hP hD hS ls (lv_sub hl [2, 3, 1] rfl)
        · have h := (if_neg c44).symm.trans h
          refine lv_iconst (v := 1) hx hb dX8_burns_41 (by decide) ?_
          refine lv_goto (tgt := 46) hx hb dX8_burns_42 (by decide) ?_
          exact kB46 (fX8_burns_b2 fuel) ih state y1 q36 1 h _ _ hP hD hS ls (lv_sub hl [2, 3, 1] rfl)
  have hl := lv_entry ([.ref m0]) (n := 5) (Nat.le_of_ble_eq_true rfl)
  rw [lg_entry_eq]
  generalize (lg_sl ([.ref m0]) ++ List.replicate (5 - (lg_sl ([.ref m0])).length) Slot.unset).toArray = ls at hl ⊢
  have hl : lv_has ls 5 [(0, .ref m0)] := hl
  unfold fX8_burns at h
  refine lv_iconst (v := 0) hx hb dX8_burns_0 (by decide) ?_
  refine lv_istore_n (lv' := [(1, .int 0), (0, .ref m0)]) hx hb dX8_burns_1 rfl hl (by decide) rfl (fun ls hl => ?_)
  exact kB2 6000 state 0 h _ _ hP hD hS ls (lv_sub hl [1, 0] rfl)

noncomputable def fX8_isInSafe (state : Nat → Int32) (x1 : Int32) (x2 : Int32) : Option (Int32) :=
  ((fX8_keyPart state x1 1).bind fun q1 => (if q1 = 1 then ((fX8_isRoot state x1).bind fun q4 => (if q4 = 0 then (some 0) else ((fX8_keyPart state x1 2).bind fun q7 => (if q7 = x2 then (some 1) else (some 0))))) else (some 0)))
set_option maxHeartbeats 1000000 in
set_option maxRecDepth 100000 in
theorem mX8_isInSafe (l : Launch) (dC : Nat → ClassId) (dI : Nat → Nat → Nat) (cyI cyO : ClassId) (m0 m1 m2 m3 m4 m5 m6 : Nat) (state : Nat → Int32) (history : Nat → Int32) (recorded : Int32) (slots : Nat → Int32) (isSaved : Nat → Int32) (pad : Nat → Int32) (padLength : Int32) (opened : Nat → Int32) (pos : Int32) (letter : Int32) (first : Int32) (second : Int32) (x1 : Int32) (x2 : Int32) (sz : Nat) (res : Int32) (h : fX8_isInSafe state x1 x2 = some res) : Met l yX8_isInSafe (wsG yX8_isInSafe cX8_isInSafe 3 (some .boolean)) ({ frames := 2, cells := 0, slots := 0, locals := 43 }) (cP dC dI cyI cyO sz [.ref m0, .int x1, .int x2] (modelW cyI m0 m1 m2 m3 m4 m5 m6 state history recorded slots isSaved pad padLength opened pos letter first second)) (cI dC dI res (modelW cyI m0 m1 m2 m3 m4 m5 m6 state history recorded slots isSaved pad padLength opened pos letter first second) (va_A (modelW cyI m0 m1 m2 m3 m4 m5 m6 state history recorded slots isSaved pad padLength opened pos letter first second) sz)) 0 0 (va_A (modelW cyI m0 m1 m2 m3 m4 m5 m6 state history recorded slots isSaved pad padLength opened pos letter first second) sz) := by
  refine Met.ofW (cc := cX8_isInSafe) (maxL := 3) (ret := (some .boolean)) (by decide) rfl ?_
  intro p e s m args below meth c s₁ B hml hv
  obtain ⟨rfl, hsz, hP, hK, hD0⟩ := hv
  have hx := B.exec
  have hb := B.bytes
  have hr := B.returns
  have hts := atoms_spec (ws := wsG yX8_isInSafe cX8_isInSafe 3 (some .boolean)) B.pre
  have hown : s.vm.findClass RX8 = some m.cls := findClass_of_methodNamed B.named
  have hlocks := B.notSynchronized
  subst hsz
  have hD := hD0.self (sz := s.heap.size)
  generalize hAe : va_A (modelW cyI m0 m1 m2 m3 m4 m5 m6 state history recorded slots isSaved pad padLength opened pos letter first second) s.heap.size = A at hD ⊢
  have hA : ∀ q : Nat, s.heap.size ≤ q → A q := fun q h => by rw [← hAe]; exact Or.inr h
  have hS : va_S A s.heap s.heap [] := va_S.rf
  have hl := lv_entry ([.ref m0, .int x1, .int x2]) (n := 3) (Nat.le_of_ble_eq_true rfl)
  rw [lg_entry_eq]
  generalize (lg_sl ([.ref m0, .int x1, .int x2]) ++ List.replicate (3 - (lg_sl ([.ref m0, .int x1, .int x2])).length) Slot.unset).toArray = ls at hl ⊢
  have hl : lv_has ls 3 [(0, .ref m0), (1, .int x1), (2, .int x2)] := hl
  unfold fX8_isInSafe at h
  refine lv_aload_n hx hb dX8_isInSafe_0 rfl (lv_at hl 0 rfl) ?_
  refine lv_iload_n hx hb dX8_isInSafe_1 rfl (lv_at hl 1 rfl) ?_
  refine lv_iconst (v := 1) hx hb dX8_isInSafe_2 (by decide) ?_
  obtain ⟨q1, e2, h⟩ := ob h
  refine fr_ir (M := (modelW cyI m0 m1 m2 m3 m4 m5 m6 state history recorded slots isSaved pad padLength opened pos letter first second)) (va_runV (As := [.int x1, .int 1]) (rest := []) ⟨hx, hb, hml, hown, hts⟩ (mX8_keyPart l dC dI cyI cyO m0 m1 m2 m3 m4 m5 m6 state history recorded slots isSaved pad padLength opened pos letter first second x1 1 _ q1 e2) (cwV 2 hts (gV ml_X8_44 im_X8_keyPart se_X8_keyPart in_X8 co_X8_keyPart) rfl rfl rfl (by decide +kernel) ⟨Nat.le_of_ble_eq_true rfl, Nat.le_of_ble_eq_true rfl⟩) (cP_V hK hP hD [0, 1, 2, 3, 4, 5, 6] rfl rfl 0 rfl rfl) rfl rfl hl.1 rfl (lv_room (Nat.le_of_ble_eq_true rfl)) dX8_isInSafe_3 ⟨Nat.zero_le _, Nat.zero_le _⟩) hP hD hS hA [0, 1, 2, 3, 4, 5, 6] rfl (fun H locs hP hS => ?_)
  refine lv_iconst (v := 1) hx hb dX8_isInSafe_6 (by decide) ?_
  refine lv_icmp_ne (tgt := 32) hx hb dX8_isInSafe_7 (by decide) (fun c3 => ?_) (fun c3 => ?_)
  · have h := (if_neg c3).symm.trans h
    refine lv_iconst (v := 0) hx hb dX8_isInSafe_32 (by decide) ?_
    obtain rfl := Option.some.inj h
    exact e_z (v := 0) hx hb hr hlocks rfl hP hS dX8_isInSafe_33
  · have h := (if_pos c3).symm.trans h
    refine lv_aload_n hx hb dX8_isInSafe_10 rfl (lv_at hl 0 rfl) ?_
    refine lv_iload_n hx hb dX8_isInSafe_11 rfl (lv_at hl 1 rfl) ?_
    obtain ⟨q4, e5, h⟩ := ob h
    refine fr_ir (M := (modelW cyI m0 m1 m2 m3 m4 m5 m6 state history recorded slots isSaved pad padLength opened pos letter first second)) (va_runV (As := [.int x1]) (rest := []) ⟨hx, hb, hml, hown, hts⟩ (mX8_isRoot l dC dI cyI cyO m0 m1 m2 m3 m4 m5 m6 state history recorded slots isSaved pad padLength opened pos letter first second x1 _ q4 e5) (cwV 1 hts (gV ml_X8_84 im_X8_isRoot se_X8_isRoot in_X8 co_X8_isRoot) rfl rfl rfl (by decide +kernel) ⟨Nat.le_of_ble_eq_true rfl, Nat.le_of_ble_eq_true rfl⟩) (cP_V hK hP hD [0, 1, 2, 3, 4, 5, 6] rfl rfl 0 rfl rfl) rfl rfl hl.1 rfl (lv_room (Nat.le_of_ble_eq_true rfl)) dX8_isInSafe_12 ⟨Nat.zero_le _, Nat.zero_le _⟩) hP hD hS hA [0, 1, 2, 3, 4, 5, 6] rfl (fun H locs hP hS => ?_)
    refine lv_if_eq (tgt := 32) hx hb dX8_isInSafe_15 (by decide) (fun c6 => ?_) (fun c6 => ?_)
    · have h := (if_pos c6).symm.trans h
      refine lv_iconst (v := 0) hx hb dX8_isInSafe_32 (by decide) ?_
      obtain rfl := Option.some.inj h
      exact e_z (v := 0) hx hb hr hlocks rfl hP hS dX8_isInSafe_33
    · have h := (if_neg c6).symm.trans h
      refine lv_aload_n hx hb dX8_isInSafe_18 rfl (lv_at hl 0 rfl) ?_
      refine lv_iload_n hx hb dX8_isInSafe_19 rfl (lv_at hl 1 rfl) ?_
      refine lv_iconst (v := 2) hx hb dX8_isInSafe_20 (by decide) ?_
      obtain ⟨q7, e8, h⟩ := ob h
      refine fr_ir (M := (modelW cyI m0 m1 m2 m3 m4 m5 m6 state history recorded slots isSaved pad padLength opened pos letter first second)) (va_runV (As := [.int x1, .int 2]) (rest := []) ⟨hx, hb, hml, hown, hts⟩ (mX8_keyPart l dC dI cyI cyO m0 m1 m2 m3 m4 m5 m6 state history recorded slots isSaved pad padLength opened pos letter first second x1 2 _ q7 e8) (cwV 2 hts (gV ml_X8_44 im_X8_keyPart se_X8_keyPart in_X8 co_X8_keyPart) rfl rfl rfl (by decide +kernel) ⟨Nat.le_of_ble_eq_true rfl, Nat.le_of_ble_eq_true rfl⟩) (cP_V hK hP hD [0, 1, 2, 3, 4, 5, 6] rfl rfl 0 rfl rfl) rfl rfl hl.1 rfl (lv_room (Nat.le_of_ble_eq_true rfl)) dX8_isInSafe_21 ⟨Nat.zero_le _, Nat.zero_le _⟩) hP hD hS hA [0, 1, 2, 3, 4, 5, 6] rfl (fun H locs hP hS => ?_)
      refine lv_iload_n hx hb dX8_isInSafe_24 rfl (lv_at hl 2 rfl) ?_
      refine lv_icmp_ne (tgt := 32) hx hb dX8_isInSafe_25 (by decide) (fun c9 => ?_) (fun c9 => ?_)
      · have h := (if_neg c9).symm.trans h
        refine lv_iconst (v := 0) hx hb dX8_isInSafe_32 (by decide) ?_
        obtain rfl := Option.some.inj h
        exact e_z (v := 0) hx hb hr hlocks rfl hP hS dX8_isInSafe_33
      · have h := (if_pos c9).symm.trans h
        refine lv_iconst (v := 1) hx hb dX8_isInSafe_28 (by decide) ?_
        refine lv_goto (tgt := 33) hx hb dX8_isInSafe_29 (by decide) ?_
        obtain rfl := Option.some.inj h
        exact e_z (v := 1) hx hb hr hlocks rfl hP hS dX8_isInSafe_33
noncomputable def fX8_isHad_b36 : Nat → (Nat → Int32) → (Nat → Int32) → Int32 → Int32 → Int32 → Int32 → Option (Int32)
  | 0, _, _, _, _, _, _ => none
  | fuel + 1, state, opened, y1, y2, y5, y6 =>
  (if (3 : Int32) < 0 ∨ 844 ≤ (3 : Int32).toNatClampNeg then none else (if (state (3 : Int32).toNatClampNeg) ≤ y6 then (if y5 = 0 then some 0 else if y5 = 1 then some 1 else none) else (if y5 = 0 then (if y6 < 0 ∨ 120 ≤ y6.toNatClampNeg then none else (if (opened y6.toNatClampNeg) = 1 then ((fX8_wrapPart state y6 0).bind fun q10 => (if q10 = y1 then ((fX8_wrapPart state y6 1).bind fun q13 => (if q13 = y2 then fX8_isHad_b36 fuel state opened y1 y2 1 (y6 + 1) else fX8_isHad_b36 fuel state opened y1 y2 0 (y6 + 1))) else fX8_isHad_b36 fuel state opened y1 y2 0 (y6 + 1))) else fX8_isHad_b36 fuel state opened y1 y2 0 (y6 + 1))) else (if y5 = 0 then some 0 else if y5 = 1 then some 1 else none))))

noncomputable def fX8_isHad (state : Nat → Int32) (opened : Nat → Int32) (x1 : Int32) (x2 : Int32) (x3 : Int32) (x4 : Int32) : Option (Int32) :=
  (if x3 = (-6) then ((fX8_isInSafe state x1 x2).bind fun q19 => fX8_isHad_b36 6000 state opened x1 x2 q19 0) else (if x1 = x3 then (if x2 = x4 then fX8_isHad_b36 6000 state opened x1 x2 1 0 else fX8_isHad_b36 6000 state opened x1 x2 0 0) else fX8_isHad_b36 6000 state opened x1 x2 0 0))
set_option maxHeartbeats 1000000 in
set_option maxRecDepth 100000 in
theorem mX8_isHad (l : Launch) (dC : Nat → ClassId) (dI : Nat → Nat → Nat) (cyI cyO : ClassId) (m0 m1 m2 m3 m4 m5 m6 : Nat) (state : Nat → Int32) (history : Nat → Int32) (recorded : Int32) (slots : Nat → Int32) (isSaved : Nat → Int32) (pad : Nat → Int32) (padLength : Int32) (opened : Nat → Int32) (pos : Int32) (letter : Int32) (first : Int32) (second : Int32) (x1 : Int32) (x2 : Int32) (x3 : Int32) (x4 : Int32) (sz : Nat) (res : Int32) (h : fX8_isHad state opened x1 x2 x3 x4 = some res) : Met l yX8_isHad (wsG yX8_isHad cX8_isHad 7 (some .boolean)) ({ frames := 3, cells := 0, slots := 0, locals := 65 }) (cP dC dI cyI cyO sz [.ref m0, .int x1, .int x2, .int x3, .int x4] (modelW cyI m0 m1 m2 m3 m4 m5 m6 state history recorded slots isSaved pad padLength opened pos letter first second)) (cI dC dI res (modelW cyI m0 m1 m2 m3 m4 m5 m6 state history recorded slots isSaved pad padLength opened pos letter first second) (va_A (modelW cyI m0 m1 m2 m3 m4 m5 m6 state history recorded slots isSaved pad padLength opened pos letter first second) sz)) 0 0 (va_A (modelW cyI m0 m1 m2 m3 m4 m5 m6 state history recorded slots isSaved pad padLength opened pos letter first second) sz) := by
  refine Met.ofW (cc := cX8_isHad) (maxL := 7) (ret := (some .boolean)) (by decide) rfl ?_
  intro p e s m args below meth c s₁ B hml hv
  obtain ⟨rfl, hsz, hP, hK, hD0⟩ := hv
  have hx := B.exec
  have hb := B.bytes
  have hr := B.returns
  have hts := atoms_spec (ws := wsG yX8_isHad cX8_isHad 7 (some .boolean)) B.pre
  have hown : s.vm.findClass RX8 = some m.cls := findClass_of_methodNamed B.named
  have hlocks := B.notSynchronized
  subst hsz
  have hD := hD0.self (sz := s.heap.size)
  generalize hAe : va_A (modelW cyI m0 m1 m2 m3 m4 m5 m6 state history recorded slots isSaved pad padLength opened pos letter first second) s.heap.size = A at hD ⊢
  have hA : ∀ q : Nat, s.heap.size ≤ q → A q := fun q h => by rw [← hAe]; exact Or.inr h
  have hS : va_S A s.heap s.heap [] := va_S.rf
  have kB36 : ∀ (fuel : Nat) (state : Nat → Int32) (opened : Nat → Int32) (y1 : Int32) (y2 : Int32) (y5 : Int32) (y6 : Int32), fX8_isHad_b36 fuel state opened y1 y2 y5 y6 = some res → ∀ (H : Heap) (locs : List Loc), va_P (dC, dI) vwCl (modelW cyI m0 m1 m2 m3 m4 m5 m6 state history recorded slots isSaved pad padLength opened pos letter first second) H → va_D A (modelW cyI m0 m1 m2 m3 m4 m5 m6 state history recorded slots isSaved pad padLength opened pos letter first second) → va_S A s.heap H locs → ∀ ls : Array Slot, lv_has ls 7 [(0, .ref m0), (1, .int y1), (2, .int y2), (5, .int y5), (6, .int y6)] → W p l e (headSpec (wsG yX8_isHad cX8_isHad 7 (some .boolean)) ({ frames := 3, cells := 0, slots := 0, locals := 65 })).room s m (([.ref m0, .int x1, .int x2, .int x3, .int x4] : List Value).toArray) below meth c H locs 0 0 (MQ below (cI dC dI res (modelW cyI m0 m1 m2 m3 m4 m5 m6 state history recorded slots isSaved pad padLength opened pos letter first second) A) ([.ref m0, .int x1, .int x2, .int x3, .int x4] : List Value).toArray s 0 0 A) (F0 m 36 ls []) := by
    intro fuel
    induction fuel with
    | zero => intro state opened y1 y2 y5 y6 h; rw [fX8_isHad_b36] at h; cases h
    | succ fuel ih =>
      intro state opened y1 y2 y5 y6 h H locs hP hD hS ls hl
      rw [fX8_isHad_b36] at h
      refine lv_iload hx hb dX8_isHad_36 (lv_at hl 4 rfl) ?_
      refine lv_aload_n hx hb dX8_isHad_38 rfl (lv_at hl 0 rfl) ?_
      refine va_get (D := (dC, dI)) (ci := 8) (v := .ref m1) (C := RX8) (T := TX8) (N := 12) hx hb hts (fun w h9 => gb_mem (lay_X8 w h9)) hown hK.1 hP 0 rfl rfl 0 (by decide) (hts _ (gb_mem fl_X8_7)) (fun _ h9 => h9) rfl dX8_isHad_39 ?_
      refine lv_iconst (v := 3) hx hb dX8_isHad_42 (by decide) ?_
      obtain ⟨ni1, h⟩ := ifn h
      refine va_iald hx hb hK.1 hP 1 0 rfl rfl ni1 dX8_isHad_43 ?_
      refine lv_icmp_ge (tgt := 98) hx hb dX8_isHad_44 (by decide) (fun c2 => ?_) (fun c2 => ?_)
      · have h := (if_pos c2).symm.trans h
        refine lv_iload hx hb dX8_isHad_98 (lv_at hl 3 rfl) ?_
        by_cases c3 : y5 = 0
        · have h := (if_pos c3).symm.trans h
          obtain rfl := Option.some.inj h
          rw [c3]
          exact e_z (v := 0) hx hb hr hlocks rfl hP hS dX8_isHad_100
        · have h := (if_neg c3).symm.trans h
          by_cases c4 : y5 = 1
          · have h := (if_pos c4).symm.trans h
            obtain rfl := Option.some.inj h
            rw [c4]
            exact e_z (v := 1) hx hb hr hlocks rfl hP hS dX8_isHad_100
          · have h := (if_neg c4).symm.trans h
            cases h
      · have h := (if_neg c2).symm.trans h
        refine lv_iload hx hb dX8_isHad_47 (lv_at hl 3 rfl) ?_
        refine lv_if_ne (tgt := 98) hx hb dX8_isHad_49 (by decide) (fun c5 => ?_) (fun c5 => ?_)
        · have h := (if_neg c5).symm.trans h
          refine lv_iload hx hb dX8_isHad_98 (lv_at hl 3 rfl) ?_
          by_cases c6 : y5 = 0
          · have h := (if_pos c6).symm.trans h
            obtain rfl := Option.some.inj h
            rw [c6]
            exact e_z (v := 0) hx hb hr hlocks rfl hP hS dX8_isHad_100
          · have h := (if_neg c6).symm.trans h
            by_cases c7 : y5 = 1
            · have h := (if_pos c7).symm.trans h
              obtain rfl := Option.some.inj h
              rw [c7]
              exact e_z (v := 1) hx hb hr hlocks rfl hP hS dX8_isHad_100
            · have h := (if_neg c7).symm.trans h
              cases h
        · have h := (if_pos c5).symm.trans h
          refine lv_aload_n hx hb dX8_isHad_52 rfl (lv_at hl 0 rfl) ?_
          refine va_get (D := (dC, dI)) (ci := 8) (v := .ref m6) (C := RX8) (T := TX8) (N := 12) hx hb hts (fun w h9 => gb_mem (lay_X8 w h9)) hown hK.1 hP 0 rfl rfl 7 (by decide) (hts _ (gb_mem fl_X8_25)) (fun _ h9 => h9) rfl dX8_isHad_53 ?_
          refine lv_iload hx hb dX8_isHad_56 (lv_at hl 4 rfl) ?_
          obtain ⟨ni8, h⟩ := ifn h
          refine va_iald hx hb hK.1 hP 6 0 rfl rfl ni8 dX8_isHad_58 ?_
          refine lv_iconst (v := 1) hx hb dX8_isHad_59 (by decide) ?_
          refine lv_icmp_ne (tgt := 89) hx hb dX8_isHad_60 (by decide) (fun c9 => ?_) (fun c9 => ?_)
          · have h := (if_neg c9).symm.trans h
            refine lv_iconst (v := 0) hx hb dX8_isHad_89 (by decide) ?_
            refine lv_istore (lv' := [(5, .int 0), (0, .ref m0), (1, .int y1), (2, .int y2), (6, .int y6)]) hx hb dX8_isHad_90 hl (by decide) rfl (fun ls hl => ?_)
            refine lv_iinc (v := (y6 + 1)) (lv' := [(6, .int (y6 + 1)), (5, .int 0), (0, .ref m0), (1, .int y1), (2, .int y2)]) hx hb dX8_isHad_92 hl (k := 4) rfl rfl (by decide) rfl (fun ls hl => ?_)
            refine lv_goto (tgt := 36) hx hb dX8_isHad_95 (by decide) ?_
            exact ih state opened y1 y2 0 (y6 + 1) h _ _ hP hD hS ls (lv_sub hl [2, 3, 4, 1, 0] rfl)
          · have h := (if_pos c9).symm.trans h
            refine lv_aload_n hx hb dX8_isHad_63 rfl (lv_at hl 0 rfl) ?_
            refine lv_iload hx hb dX8_isHad_64 (lv_at hl 4 rfl) ?_
            refine lv_iconst (v := 0) hx hb dX8_isHad_66 (by decide) ?_
            obtain ⟨q10, e11, h⟩ := ob h
            refine fr_ir (M := (modelW cyI m0 m1 m2 m3 m4 m5 m6 state history recorded slots isSaved pad padLength opened pos letter first second)) (va_runV (As := [.int y6, .int 0]) (rest := []) ⟨hx, hb, hml, hown, hts⟩ (mX8_wrapPart l dC dI cyI cyO m0 m1 m2 m3 m4 m5 m6 state history recorded slots isSaved pad padLength opened pos letter first second y6 0 _ q10 e11) (cwV 2 hts (gV ml_X8_81 im_X8_wrapPart se_X8_wrapPart in_X8 co_X8_wrapPart) rfl rfl rfl (by decide +kernel) ⟨Nat.le_of_ble_eq_true rfl, Nat.le_of_ble_eq_true rfl⟩) (cP_V hK hP hD [0, 1, 2, 3, 4, 5, 6] rfl rfl 0 rfl rfl) rfl rfl hl.1 rfl (lv_room (Nat.le_of_ble_eq_true rfl)) dX8_isHad_67 ⟨Nat.zero_le _, Nat.zero_le _⟩) hP hD hS hA [0, 1, 2, 3, 4, 5, 6] rfl (fun H locs hP hS => ?_)
            refine lv_iload_n hx hb dX8_isHad_70 rfl (lv_at hl 1 rfl) ?_
            refine lv_icmp_ne (tgt := 89) hx hb dX8_isHad_71 (by decide) (fun c12 => ?_) (fun c12 => ?_)
            · have h := (if_neg c12).symm.trans h
              refine lv_iconst (v := 0) hx hb dX8_isHad_89 (by decide) ?_
              refine lv_istore (lv' := [(5, .int 0), (0, .ref m0), (1, .int y1), (2, .int y2), (6, .int y6)]) hx hb dX8_isHad_90 hl (by decide) rfl (fun ls hl => ?_)
              refine lv_iinc (v := (y6 + 1)) (lv' := [(6, .int (y6 + 1)), (5, .int 0), (0, .ref m0), (1, .int y1), (2, .int y2)]) hx hb dX8_isHad_92 hl (k := 4) rfl rfl (by decide) rfl (fun ls hl => ?_)
              refine lv_goto (tgt := 36) hx hb dX8_isHad_95 (by decide) ?_
              exact ih state opened y1 y2 0 (y6 + 1) h _ _ hP hD hS ls (lv_sub hl [2, 3, 4, 1, 0] rfl)
            · have h := (if_pos c12).symm.trans h
              refine lv_aload_n hx hb dX8_isHad_74 rfl (lv_at hl 0 rfl) ?_
              refine lv_iload hx hb dX8_isHad_75 (lv_at hl 4 rfl) ?_
              refine lv_iconst (v := 1) hx hb dX8_isHad_77 (by decide) ?_
              obtain ⟨q13, e14, h⟩ := ob h
              refine fr_ir (M := (modelW cyI m0 m1 m2 m3 m4 m5 m6 state history recorded slots isSaved pad padLength opened pos letter first second)) (va_runV (As := [.int y6, .int 1]) (rest := []) ⟨hx, hb, hml, hown, hts⟩ (mX8_wrapPart l dC dI cyI cyO m0 m1 m2 m3 m4 m5 m6 state history recorded slots isSaved pad padLength opened pos letter first second y6 1 _ q13 e14) (cwV 2 hts (gV ml_X8_81 im_X8_wrapPart se_X8_wrapPart in_X8 co_X8_wrapPart) rfl rfl rfl (by decide +kernel) ⟨Nat.le_of_ble_eq_true rfl, Nat.le_of_ble_eq_true rfl⟩) (cP_V hK hP hD [0, 1, 2, 3, 4, 5, 6] rfl rfl 0 rfl rfl) rfl rfl hl.1 rfl (lv_room (Nat.le_of_ble_eq_true rfl)) dX8_isHad_78 ⟨Nat.zero_le _, Nat.zero_le _⟩) hP hD hS hA [0, 1, 2, 3, 4, 5, 6] rfl (fun H locs hP hS => ?_)
              refine lv_iload_n hx hb dX8_isHad_81 rfl (lv_at hl 2 rfl) ?_
              refine lv_icmp_ne (tgt := 89) hx hb dX8_isHad_82 (by decide) (fun c15 => ?_) (fun c15 => ?_)
              · have h := (if_neg c15).symm.trans h
                refine lv_iconst (v := 0) hx hb dX8_isHad_89 (by decide) ?_
                refine lv_istore (lv' := [(5, .int 0), (0, .ref m0), (1, .int y1), (2, .int y2), (6, .int y6)]) hx hb dX8_isHad_90 hl (by decide) rfl (fun ls hl => ?_)
                refine lv_iinc (v := (y6 + 1)) (lv' := [(6, .int (y6 + 1)), (5, .int 0), (0, .ref m0), (1, .int y1), (2, .int y2)]) hx hb dX8_isHad_92 hl (k := 4) rfl rfl (by decide) rfl (fun ls hl => ?_)
                refine lv_goto (tgt := 36) hx hb dX8_isHad_95 (by decide) ?_
                exact ih state opened y1 y2 0 (y6 + 1) h _ _ hP hD hS ls (lv_sub hl [2, 3, 4, 1, 0] rfl)
              · have h := (if_pos c15).symm.trans h
                refine lv_iconst (v := 1) hx hb dX8_isHad_85 (by decide) ?_
                refine lv_goto (tgt := 90) hx hb dX8_isHad_86 (by decide) ?_
                refine lv_istore (lv' := [(5, .int 1), (0, .ref m0), (1, .int y1), (2, .int y2), (6, .int y6)]) hx hb dX8_isHad_90 hl (by decide) rfl (fun ls hl => ?_)
                refine lv_iinc (v := (y6 + 1)) (lv' := [(6, .int (y6 + 1)), (5, .int 1), (0, .ref m0), (1, .int y1), (2, .int y2)]) hx hb dX8_isHad_92 hl (k := 4) rfl rfl (by decide) rfl (fun ls hl => ?_)
                refine lv_goto (tgt := 36) hx hb dX8_isHad_95 (by decide) ?_
                exact ih state opened y1 y2 1 (y6 + 1) h _ _ hP hD hS ls (lv_sub hl [2, 3, 4, 1, 0] rfl)
  have hl := lv_entry ([.ref m0, .int x1, .int x2, .int x3, .int x4]) (n := 7) (Nat.le_of_ble_eq_true rfl)
  rw [lg_entry_eq]
  generalize (lg_sl ([.ref m0, .int x1, .int x2, .int x3, .int x4]) ++ List.replicate (7 - (lg_sl ([.ref m0, .int x1, .int x2, .int x3, .int x4])).length) Slot.unset).toArray = ls at hl ⊢
  have hl : lv_has ls 7 [(0, .ref m0), (1, .int x1), (2, .int x2), (3, .int x3), (4, .int x4)] := hl
  unfold fX8_isHad at h
  refine lv_iload_n hx hb dX8_isHad_0 rfl (lv_at hl 3 rfl) ?_
  refine lv_bipush (v := (-6)) hx hb dX8_isHad_1 (by decide) ?_
  refine lv_icmp_ne (tgt := 15) hx hb dX8_isHad_3 (by decide) (fun c16 => ?_) (fun c16 => ?_)
  · have h := (if_neg c16).symm.trans h
    refine lv_iload_n hx hb dX8_isHad_15 rfl (lv_at hl 1 rfl) ?_
    refine lv_iload_n hx hb dX8_isHad_16 rfl (lv_at hl 3 rfl) ?_
    refine lv_icmp_ne (tgt := 30) hx hb dX8_isHad_17 (by decide) (fun c17 => ?_) (fun c17 => ?_)
    · have h := (if_neg c17).symm.trans h
      refine lv_iconst (v := 0) hx hb dX8_isHad_30 (by decide) ?_
      refine lv_istore (lv' := [(5, .int 0), (0, .ref m0), (1, .int x1), (2, .int x2), (3, .int x3), (4, .int x4)]) hx hb dX8_isHad_31 hl (by decide) rfl (fun ls hl => ?_)
      refine lv_iconst (v := 0) hx hb dX8_isHad_33 (by decide) ?_
      refine lv_istore (lv' := [(6, .int 0), (5, .int 0), (0, .ref m0), (1, .int x1), (2, .int x2), (3, .int x3), (4, .int x4)]) hx hb dX8_isHad_34 hl (by decide) rfl (fun ls hl => ?_)
      exact kB36 6000 state opened x1 x2 0 0 h _ _ hP hD hS ls (lv_sub hl [2, 3, 4, 1, 0] rfl)
    · have h := (if_pos c17).symm.trans h
      refine lv_iload_n hx hb dX8_isHad_20 rfl (lv_at hl 2 rfl) ?_
      refine lv_iload hx hb dX8_isHad_21 (lv_at hl 4 rfl) ?_
      refine lv_icmp_ne (tgt := 30) hx hb dX8_isHad_23 (by decide) (fun c18 => ?_) (fun c18 => ?_)
      · have h := (if_neg c18).symm.trans h
        refine lv_iconst (v := 0) hx hb dX8_isHad_30 (by decide) ?_
        refine lv_istore (lv' := [(5, .int 0), (0, .ref m0), (1, .int x1), (2, .int x2), (3, .int x3), (4, .int x4)]) hx hb dX8_isHad_31 hl (by decide) rfl (fun ls hl => ?_)
        refine lv_iconst (v := 0) hx hb dX8_isHad_33 (by decide) ?_
        refine lv_istore (lv' := [(6, .int 0), (5, .int 0), (0, .ref m0), (1, .int x1), (2, .int x2), (3, .int x3), (4, .int x4)]) hx hb dX8_isHad_34 hl (by decide) rfl (fun ls hl => ?_)
        exact kB36 6000 state opened x1 x2 0 0 h _ _ hP hD hS ls (lv_sub hl [2, 3, 4, 1, 0] rfl)
      · have h := (if_pos c18).symm.trans h
        refine lv_iconst (v := 1) hx hb dX8_isHad_26 (by decide) ?_
        refine lv_goto (tgt := 31) hx hb dX8_isHad_27 (by decide) ?_
        refine lv_istore (lv' := [(5, .int 1), (0, .ref m0), (1, .int x1), (2, .int x2), (3, .int x3), (4, .int x4)]) hx hb dX8_isHad_31 hl (by decide) rfl (fun ls hl => ?_)
        refine lv_iconst (v := 0) hx hb dX8_isHad_33 (by decide) ?_
        refine lv_istore (lv' := [(6, .int 0), (5, .int 1), (0, .ref m0), (1, .int x1), (2, .int x2), (3, .int x3), (4, .int x4)]) hx hb dX8_isHad_34 hl (by decide) rfl (fun ls hl => ?_)
        exact kB36 6000 state opened x1 x2 1 0 h _ _ hP hD hS ls (lv_sub hl [2, 3, 4, 1, 0] rfl)
  · have h := (if_pos c16).symm.trans h
    refine lv_aload_n hx hb dX8_isHad_6 rfl (lv_at hl 0 rfl) ?_
    refine lv_iload_n hx hb dX8_isHad_7 rfl (lv_at hl 1 rfl) ?_
    refine lv_iload_n hx hb dX8_isHad_8 rfl (lv_at hl 2 rfl) ?_
    obtain ⟨q19, e20, h⟩ := ob h
    refine fr_ir (M := (modelW cyI m0 m1 m2 m3 m4 m5 m6 state history recorded slots isSaved pad padLength opened pos letter first second)) (va_runV (As := [.int x1, .int x2]) (rest := []) ⟨hx, hb, hml, hown, hts⟩ (mX8_isInSafe l dC dI cyI cyO m0 m1 m2 m3 m4 m5 m6 state history recorded slots isSaved pad padLength opened pos letter first second x1 x2 _ q19 e20) (cwV 2 hts (gV ml_X8_87 im_X8_isInSafe se_X8_isInSafe in_X8 co_X8_isInSafe) rfl rfl rfl (by decide +kernel) ⟨Nat.le_of_ble_eq_true rfl, Nat.le_of_ble_eq_true rfl⟩) (cP_V hK hP hD [0, 1, 2, 3, 4, 5, 6] rfl rfl 0 rfl rfl) rfl rfl hl.1 rfl (lv_room (Nat.le_of_ble_eq_true rfl)) dX8_isHad_9 ⟨Nat.zero_le _, Nat.zero_le _⟩) hP hD hS hA [0, 1, 2, 3, 4, 5, 6] rfl (fun H locs hP hS => ?_)
    refine lv_goto (tgt := 31) hx hb dX8_isHad_12 (by decide) ?_
    refine lv_istore (lv' := [(5, .int q19), (0, .ref m0), (1, .int x1), (2, .int x2), (3, .int x3), (4, .int x4)]) hx hb dX8_isHad_31 hl (by decide) rfl (fun ls hl => ?_)
    refine lv_iconst (v := 0) hx hb dX8_isHad_33 (by decide) ?_
    refine lv_istore (lv' := [(6, .int 0), (5, .int q19), (0, .ref m0), (1, .int x1), (2, .int x2), (3, .int x3), (4, .int x4)]) hx hb dX8_isHad_34 hl (by decide) rfl (fun ls hl => ?_)
    exact kB36 6000 state opened x1 x2 q19 0 h _ _ hP hD hS ls (lv_sub hl [2, 3, 4, 1, 0] rfl)
noncomputable def fX8_open_b87 (k31 : (Nat → Int32) → (Nat → Int32) → Int32 → Int32 → Int32 → Int32 → Option ((Nat → Int32))) (k42 : (Nat → Int32) → (Nat → Int32) → Int32 → Int32 → Int32 → Int32 → Int32 → Option ((Nat → Int32))) (state : Nat → Int32) (opened : Nat → Int32) (y1 : Int32) (y2 : Int32) (y3 : Int32) (y4 : Int32) (y5 : Int32) (z0 : Int32) : Option ((Nat → Int32)) :=
  (if y5 < 0 ∨ 120 ≤ y5.toNatClampNeg then none else (if (opened y5.toNatClampNeg) = 0 then (if z0 = 0 then k42 state opened y1 y2 y3 y4 (y5 + 1) else ((fX8_wrapPart state y5 2).bind fun q4 => ((fX8_wrapPart state y5 3).bind fun q6 => ((fX8_isHad state opened q4 q6 y2 y3).bind fun q8 => (if q8 = 0 then k42 state opened y1 y2 y3 y4 (y5 + 1) else (if y5 < 0 ∨ 120 ≤ y5.toNatClampNeg then none else k42 state (upd opened y5.toNatClampNeg 1) y1 y2 y3 1 (y5 + 1))))))) else k42 state opened y1 y2 y3 y4 (y5 + 1)))

noncomputable def fX8_open_b42 (k31 : (Nat → Int32) → (Nat → Int32) → Int32 → Int32 → Int32 → Int32 → Option ((Nat → Int32))) : Nat → (Nat → Int32) → (Nat → Int32) → Int32 → Int32 → Int32 → Int32 → Int32 → Option ((Nat → Int32))
  | 0, _, _, _, _, _, _, _ => none
  | fuel + 1, state, opened, y1, y2, y3, y4, y5 =>
  (if (3 : Int32) < 0 ∨ 844 ≤ (3 : Int32).toNatClampNeg then none else (if (state (3 : Int32).toNatClampNeg) ≤ y5 then k31 state opened y1 y2 y3 y4 else ((fX8_wrapPart state y5 5).bind fun q14 => (if (q14 &&& y1) = 0 then (if y2 = (-6) then ((fX8_wrapPart state y5 4).bind fun q18 => (if q18 = 1 then fX8_open_b87 k31 (fX8_open_b42 k31 fuel) state opened y1 y2 y3 y4 y5 1 else fX8_open_b87 k31 (fX8_open_b42 k31 fuel) state opened y1 y2 y3 y4 y5 0)) else fX8_open_b87 k31 (fX8_open_b42 k31 fuel) state opened y1 y2 y3 y4 y5 0) else fX8_open_b87 k31 (fX8_open_b42 k31 fuel) state opened y1 y2 y3 y4 y5 1))))

noncomputable def fX8_open_b31 : Nat → (Nat → Int32) → (Nat → Int32) → Int32 → Int32 → Int32 → Int32 → Option ((Nat → Int32))
  | 0, _, _, _, _, _, _ => none
  | fuel + 1, state, opened, y1, y2, y3, y4 =>
  (if y4 = 0 then (some opened) else fX8_open_b42 (fX8_open_b31 fuel) 6000 state opened y1 y2 y3 0 0)

noncomputable def fX8_open_b3 : Nat → (Nat → Int32) → (Nat → Int32) → Int32 → Int32 → Int32 → Int32 → Option ((Nat → Int32))
  | 0, _, _, _, _, _, _ => none
  | fuel + 1, state, opened, y1, y2, y3, y4 =>
  (if (3 : Int32) < 0 ∨ 844 ≤ (3 : Int32).toNatClampNeg then none else (if (state (3 : Int32).toNatClampNeg) ≤ y4 then fX8_open_b31 6000 state opened y1 y2 y3 1 else (if y4 < 0 ∨ 120 ≤ y4.toNatClampNeg then none else fX8_open_b3 fuel state (upd opened y4.toNatClampNeg 0) y1 y2 y3 (y4 + 1))))

noncomputable def fX8_open (state : Nat → Int32) (opened : Nat → Int32) (x1 : Int32) (x2 : Int32) (x3 : Int32) : Option ((Nat → Int32)) :=
  fX8_open_b3 6000 state opened x1 x2 x3 0
set_option maxHeartbeats 1000000 in
set_option maxRecDepth 100000 in
theorem mX8_open (l : Launch) (dC : Nat → ClassId) (dI : Nat → Nat → Nat) (cyI cyO : ClassId) (m0 m1 m2 m3 m4 m5 m6 : Nat) (state : Nat → Int32) (history : Nat → Int32) (recorded : Int32) (slots : Nat → Int32) (isSaved : Nat → Int32) (pad : Nat → Int32) (padLength : Int32) (opened : Nat → Int32) (pos : Int32) (letter : Int32) (first : Int32) (second : Int32) (x1 : Int32) (x2 : Int32) (x3 : Int32) (sz : Nat) (res : (Nat → Int32)) (h : fX8_open state opened x1 x2 x3 = some res) : Met l yX8_open (wsG yX8_open cX8_open 7 none) ({ frames := 4, cells := 0, slots := 0, locals := 91 }) (cP dC dI cyI cyO sz [.ref m0, .int x1, .int x2, .int x3] (modelW cyI m0 m1 m2 m3 m4 m5 m6 state history recorded slots isSaved pad padLength opened pos letter first second)) (cV dC dI (modelW cyI m0 m1 m2 m3 m4 m5 m6 state history recorded slots isSaved pad padLength res pos letter first second) (va_A (modelW cyI m0 m1 m2 m3 m4 m5 m6 state history recorded slots isSaved pad padLength opened pos letter first second) sz)) 0 0 (va_A (modelW cyI m0 m1 m2 m3 m4 m5 m6 state history recorded slots isSaved pad padLength opened pos letter first second) sz) := by
  refine Met.ofW (cc := cX8_open) (maxL := 7) (ret := none) (by decide) rfl ?_
  intro p e s m args below meth c s₁ B hml hv
  obtain ⟨rfl, hsz, hP, hK, hD0⟩ := hv
  have hx := B.exec
  have hb := B.bytes
  have hr := B.returns
  have hts := atoms_spec (ws := wsG yX8_open cX8_open 7 none) B.pre
  have hown : s.vm.findClass RX8 = some m.cls := findClass_of_methodNamed B.named
  have hlocks := B.notSynchronized
  subst hsz
  have hD := hD0.self (sz := s.heap.size)
  generalize hAe : va_A (modelW cyI m0 m1 m2 m3 m4 m5 m6 state history recorded slots isSaved pad padLength opened pos letter first second) s.heap.size = A at hD ⊢
  have hA : ∀ q : Nat, s.heap.size ≤ q → A q := fun q h => by rw [← hAe]; exact Or.inr h
  have hS : va_S A s.heap s.heap [] := va_S.rf
  have kB87 : ∀ (k31 : (Nat → Int32) → (Nat → Int32) → Int32 → Int32 → Int32 → Int32 → Option ((Nat → Int32))) (hk31 : ∀ (state : Nat → Int32) (opened : Nat → Int32) (y1 : Int32) (y2 : Int32) (y3 : Int32) (y4 : Int32), k31 state opened y1 y2 y3 y4 = some res → ∀ (H : Heap) (locs : List Loc), va_P (dC, dI) vwCl (modelW cyI m0 m1 m2 m3 m4 m5 m6 state history recorded slots isSaved pad padLength opened pos letter first second) H → va_D A (modelW cyI m0 m1 m2 m3 m4 m5 m6 state history recorded slots isSaved pad padLength opened pos letter first second) → va_S A s.heap H locs → ∀ ls : Array Slot, lv_has ls 7 [(0, .ref m0), (1, .int y1), (2, .int y2), (3, .int y3), (4, .int y4)] → W p l e (headSpec (wsG yX8_open cX8_open 7 none) ({ frames := 4, cells := 0, slots := 0, locals := 91 })).room s m (([.ref m0, .int x1, .int x2, .int x3] : List Value).toArray) below meth c H locs 0 0 (MQ below (cV dC dI (modelW cyI m0 m1 m2 m3 m4 m5 m6 state history recorded slots isSaved pad padLength res pos letter first second) A) ([.ref m0, .int x1, .int x2, .int x3] : List Value).toArray s 0 0 A) (F0 m 31 ls [])) (k42 : (Nat → Int32) → (Nat → Int32) → Int32 → Int32 → Int32 → Int32 → Int32 → Option ((Nat → Int32))) (hk42 : ∀ (state : Nat → Int32) (opened : Nat → Int32) (y1 : Int32) (y2 : Int32) (y3 : Int32) (y4 : Int32) (y5 : Int32), k42 state opened y1 y2 y3 y4 y5 = some res → ∀ (H : Heap) (locs : List Loc), va_P (dC, dI) vwCl (modelW cyI m0 m1 m2 m3 m4 m5 m6 state history recorded slots isSaved pad padLength opened pos letter first second) H → va_D A (modelW cyI m0 m1 m2 m3 m4 m5 m6 state history recorded slots isSaved pad padLength opened pos letter first second) → va_S A s.heap H locs → ∀ ls : Array Slot, lv_has ls 7 [(0, .ref m0), (1, .int y1), (2, .int y2), (3, .int y3), (4, .int y4), (5, .int y5)] → W p l e (headSpec (wsG yX8_open cX8_open 7 none) ({ frames := 4, cells := 0, slots := 0, locals := 91 })).room s m (([.ref m0, .int x1, .int x2, .int x3] : List Value).toArray) below meth c H locs 0 0 (MQ below (cV dC dI (modelW cyI m0 m1 m2 m3 m4 m5 m6 state history recorded slots isSaved pad padLength res pos letter first second) A) ([.ref m0, .int x1, .int x2, .int x3] : List Value).toArray s 0 0 A) (F0 m 42 ls [])) (state : Nat → Int32) (opened : Nat → Int32) (y1 : Int32) (y2 : Int32) (y3 : Int32) (y4 : Int32) (y5 : Int32) (z0 : Int32), fX8_open_b87 k31 k42 state opened y1 y2 y3 y4 y5 z0 = some res → ∀ (H : Heap) (locs : List Loc), va_P (dC, dI) vwCl (modelW cyI m0 m1 m2 m3 m4 m5 m6 state history recorded slots isSaved pad padLength opened pos letter first second) H → va_D A (modelW cyI m0 m1 m2 m3 m4 m5 m6 state history recorded slots isSaved pad padLength opened pos letter first second) → va_S A s.heap H locs → ∀ ls : Array Slot, lv_has ls 7 [(0, .ref m0), (1, .int y1), (2, .int y2), (3, .int y3), (4, .int y4), (5, .int y5)] → W p l e (headSpec (wsG yX8_open cX8_open 7 none) ({ frames := 4, cells := 0, slots := 0, locals := 91 })).room s m (([.ref m0, .int x1, .int x2, .int x3] : List Value).toArray) below meth c H locs 0 0 (MQ below (cV dC dI (modelW cyI m0 m1 m2 m3 m4 m5 m6 state history recorded slots isSaved pad padLength res pos letter first second) A) ([.ref m0, .int x1, .int x2, .int x3] : List Value).toArray s 0 0 A) (F0 m 87 ls [.int z0]) := by
    intro k31 hk31 k42 hk42 state opened y1 y2 y3 y4 y5 z0 h H locs hP hD hS ls hl
    unfold fX8_open_b87 at h
    refine lv_istore (lv' := [(6, .int z0), (0, .ref m0), (1, .int y1), (2, .int y2), (3, .int y3), (4, .int y4), (5, .int y5)]) hx hb dX8_open_87 hl (by decide) rfl (fun ls hl => ?_)
    refine lv_aload_n hx hb dX8_open_89 rfl (lv_at hl 1 rfl) ?_
    refine va_get (D := (dC, dI)) (ci := 8) (v := .ref m6) (C := RX8) (T := TX8) (N := 12) hx hb hts (fun w h9 => gb_mem (lay_X8 w h9)) hown hK.1 hP 0 rfl rfl 7 (by decide) (hts _ (gb_mem fl_X8_25)) (fun _ h9 => h9) rfl dX8_open_90 ?_
    refine lv_iload hx hb dX8_open_93 (lv_at hl 6 rfl) ?_
    obtain ⟨ni1, h⟩ := ifn h
    refine va_iald hx hb hK.1 hP 6 0 rfl rfl ni1 dX8_open_95 ?_
    refine lv_if_ne (tgt := 138) hx hb dX8_open_96 (by decide) (fun c2 => ?_) (fun c2 => ?_)
    · have h := (if_neg c2).symm.trans h
      refine lv_iinc (v := (y5 + 1)) (lv' := [(5, .int (y5 + 1)), (6, .int z0), (0, .ref m0), (1, .int y1), (2, .int y2), (3, .int y3), (4, .int y4)]) hx hb dX8_open_138 hl (k := 6) rfl rfl (by decide) rfl (fun ls hl => ?_)
      refine lv_goto (tgt := 42) hx hb dX8_open_141 (by decide) ?_
      exact hk42 state opened y1 y2 y3 y4 (y5 + 1) h _ _ hP hD hS ls (lv_sub hl [2, 3, 4, 5, 6, 0] rfl)
    · have h := (if_pos c2).symm.trans h
      refine lv_iload hx hb dX8_open_99 (lv_at hl 0 rfl) ?_
      refine lv_if_eq (tgt := 138) hx hb dX8_open_101 (by decide) (fun c3 => ?_) (fun c3 => ?_)
      · have h := (if_pos c3).symm.trans h
        refine lv_iinc (v := (y5 + 1)) (lv' := [(5, .int (y5 + 1)), (6, .int z0), (0, .ref m0), (1, .int y1), (2, .int y2), (3, .int y3), (4, .int y4)]) hx hb dX8_open_138 hl (k := 6) rfl rfl (by decide) rfl (fun ls hl => ?_)
        refine lv_goto (tgt := 42) hx hb dX8_open_141 (by decide) ?_
        exact hk42 state opened y1 y2 y3 y4 (y5 + 1) h _ _ hP hD hS ls (lv_sub hl [2, 3, 4, 5, 6, 0] rfl)
      · have h := (if_neg c3).symm.trans h
        refine lv_aload_n hx hb dX8_open_104 rfl (lv_at hl 1 rfl) ?_
        refine lv_aload_n hx hb dX8_open_105 rfl (lv_at hl 1 rfl) ?_
        refine lv_iload hx hb dX8_open_106 (lv_at hl 6 rfl) ?_
        refine lv_iconst (v := 2) hx hb dX8_open_108 (by decide) ?_
        obtain ⟨q4, e5, h⟩ := ob h
        refine fr_ir (M := (modelW cyI m0 m1 m2 m3 m4 m5 m6 state history recorded slots isSaved pad padLength opened pos letter first second)) (va_runV (As := [.int y5, .int 2]) (rest := [.ref m0]) ⟨hx, hb, hml, hown, hts⟩ (mX8_wrapPart l dC dI cyI cyO m0 m1 m2 m3 m4 m5 m6 state history recorded slots isSaved pad padLength opened pos letter first second y5 2 _ q4 e5) (cwV 2 hts (gV ml_X8_81 im_X8_wrapPart se_X8_wrapPart in_X8 co_X8_wrapPart) rfl rfl rfl (by decide +kernel) ⟨Nat.le_of_ble_eq_true rfl, Nat.le_of_ble_eq_true rfl⟩) (cP_V hK hP hD [0, 1, 2, 3, 4, 5, 6] rfl rfl 0 rfl rfl) rfl rfl hl.1 rfl (lv_room (Nat.le_of_ble_eq_true rfl)) dX8_open_109 ⟨Nat.zero_le _, Nat.zero_le _⟩) hP hD hS hA [0, 1, 2, 3, 4, 5, 6] rfl (fun H locs hP hS => ?_)
        refine lv_aload_n hx hb dX8_open_112 rfl (lv_at hl 1 rfl) ?_
        refine lv_iload hx hb dX8_open_113 (lv_at hl 6 rfl) ?_
        refine lv_iconst (v := 3) hx hb dX8_open_115 (by decide) ?_
        obtain ⟨q6, e7, h⟩ := ob h
        refine fr_ir (M := (modelW cyI m0 m1 m2 m3 m4 m5 m6 state history recorded slots isSaved pad padLength opened pos letter first second)) (va_runV (As := [.int y5, .int 3]) (rest := [.int q4, .ref m0]) ⟨hx, hb, hml, hown, hts⟩ (mX8_wrapPart l dC dI cyI cyO m0 m1 m2 m3 m4 m5 m6 state history recorded slots isSaved pad padLength opened pos letter first second y5 3 _ q6 e7) (cwV 2 hts (gV ml_X8_81 im_X8_wrapPart se_X8_wrapPart in_X8 co_X8_wrapPart) rfl rfl rfl (by decide +kernel) ⟨Nat.le_of_ble_eq_true rfl, Nat.le_of_ble_eq_true rfl⟩) (cP_V hK hP hD [0, 1, 2, 3, 4, 5, 6] rfl rfl 0 rfl rfl) rfl rfl hl.1 rfl (lv_room (Nat.le_of_ble_eq_true rfl)) dX8_open_116 ⟨Nat.zero_le _, Nat.zero_le _⟩) hP hD hS hA [0, 1, 2, 3, 4, 5, 6] rfl (fun H locs hP hS => ?_)
        refine lv_iload_n hx hb dX8_open_119 rfl (lv_at hl 3 rfl) ?_
        refine lv_iload_n hx hb dX8_open_120 rfl (lv_at hl 4 rfl) ?_
        obtain ⟨q8, e9, h⟩ := ob h
        refine fr_ir (M := (modelW cyI m0 m1 m2 m3 m4 m5 m6 state history recorded slots isSaved pad padLength opened pos letter first second)) (va_runV (As := [.int q4, .int q6, .int y2, .int y3]) (rest := []) ⟨hx, hb, hml, hown, hts⟩ (mX8_isHad l dC dI cyI cyO m0 m1 m2 m3 m4 m5 m6 state history recorded slots isSaved pad padLength opened pos letter first second q4 q6 y2 y3 _ q8 e9) (cwV 4 hts (gV ml_X8_91 im_X8_isHad se_X8_isHad in_X8 co_X8_isHad) rfl rfl rfl (by decide +kernel) ⟨Nat.le_of_ble_eq_true rfl, Nat.le_of_ble_eq_true rfl⟩) (cP_V hK hP hD [0, 1, 2, 3, 4, 5, 6] rfl rfl 0 rfl rfl) rfl rfl hl.1 rfl (lv_room (Nat.le_of_ble_eq_true rfl)) dX8_open_121 ⟨Nat.zero_le _, Nat.zero_le _⟩) hP hD hS hA [0, 1, 2, 3, 4, 5, 6] rfl (fun H locs hP hS => ?_)
        refine lv_if_eq (tgt := 138) hx hb dX8_open_124 (by decide) (fun c10 => ?_) (fun c10 => ?_)
        · have h := (if_pos c10).symm.trans h
          refine lv_iinc (v := (y5 + 1)) (lv' := [(5, .int (y5 + 1)), (6, .int z0), (0, .ref m0), (1, .int y1), (2, .int y2), (3, .int y3), (4, .int y4)]) hx hb dX8_open_138 hl (k := 6) rfl rfl (by decide) rfl (fun ls hl => ?_)
          refine lv_goto (tgt := 42) hx hb dX8_open_141 (by decide) ?_
          exact hk42 state opened y1 y2 y3 y4 (y5 + 1) h _ _ hP hD hS ls (lv_sub hl [2, 3, 4, 5, 6, 0] rfl)
        · have h := (if_neg c10).symm.trans h
          refine lv_aload_n hx hb dX8_open_127 rfl (lv_at hl 1 rfl) ?_
          refine va_get (D := (dC, dI)) (ci := 8) (v := .ref m6) (C := RX8) (T := TX8) (N := 12) hx hb hts (fun w h9 => gb_mem (lay_X8 w h9)) hown hK.1 hP 0 rfl rfl 7 (by decide) (hts _ (gb_mem fl_X8_25)) (fun _ h9 => h9) rfl dX8_open_128 ?_
          refine lv_iload hx hb dX8_open_131 (lv_at hl 6 rfl) ?_
          refine lv_iconst (v := 1) hx hb dX8_open_133 (by decide) ?_
          obtain ⟨ni11, h⟩ := ifn h
          refine va_iast hx hb hK.1 hP hD hS 6 0 rfl rfl ni11 dX8_open_134 (fun H locs hP hD hS => ?_)
          have hP : va_P (dC, dI) vwCl (modelW cyI m0 m1 m2 m3 m4 m5 m6 state history recorded slots isSaved pad padLength (upd opened y5.toNatClampNeg 1) pos letter first second) H := hP
          have hD : va_D A (modelW cyI m0 m1 m2 m3 m4 m5 m6 state history recorded slots isSaved pad padLength (upd opened y5.toNatClampNeg 1) pos letter first second) := hD
          refine lv_iconst (v := 1) hx hb dX8_open_135 (by decide) ?_
          refine lv_istore (lv' := [(4, .int 1), (6, .int z0), (0, .ref m0), (1, .int y1), (2, .int y2), (3, .int y3), (5, .int y5)]) hx hb dX8_open_136 hl (by decide) rfl (fun ls hl => ?_)
          refine lv_iinc (v := (y5 + 1)) (lv' := [(5, .int (y5 + 1)), (4, .int 1), (6, .int z0), (0, .ref m0), (1, .int y1), (2, .int y2), (3, .int y3)]) hx hb dX8_open_138 hl (k := 6) rfl rfl (by decide) rfl (fun ls hl => ?_)
          refine lv_goto (tgt := 42) hx hb dX8_open_141 (by decide) ?_
          exact hk42 state (upd opened y5.toNatClampNeg 1) y1 y2 y3 1 (y5 + 1) h _ _ hP hD hS ls (lv_sub hl [3, 4, 5, 6, 1, 0] rfl)
  have kB42 : ∀ (k31 : (Nat → Int32) → (Nat → Int32) → Int32 → Int32 → Int32 → Int32 → Option ((Nat → Int32))) (hk31 : ∀ (state : Nat → Int32) (opened : Nat → Int32) (y1 : Int32) (y2 : Int32) (y3 : Int32) (y4 : Int32), k31 state opened y1 y2 y3 y4 = some res → ∀ (H : Heap) (locs : List Loc), va_P (dC, dI) vwCl (modelW cyI m0 m1 m2 m3 m4 m5 m6 state history recorded slots isSaved pad padLength opened pos letter first second) H → va_D A (modelW cyI m0 m1 m2 m3 m4 m5 m6 state history recorded slots isSaved pad padLength opened pos letter first second) → va_S A s.heap H locs → ∀ ls : Array Slot, lv_has ls 7 [(0, .ref m0), (1, .int y1), (2, .int y2), (3, .int y3), (4, .int y4)] → W p l e (headSpec (wsG yX8_open cX8_open 7 none) ({ frames := 4, cells := 0, slots := 0, locals := 91 })).room s m (([.ref m0, .int x1, .int x2, .int x3] : List Value).toArray) below meth c H locs 0 0 (MQ below (cV dC dI (modelW cyI m0 m1 m2 m3 m4 m5 m6 state history recorded slots isSaved pad padLength res pos letter first second) A) ([.ref m0, .int x1, .int x2, .int x3] : List Value).toArray s 0 0 A) (F0 m 31 ls [])) (fuel : Nat) (state : Nat → Int32) (opened : Nat → Int32) (y1 : Int32) (y2 : Int32) (y3 : Int32) (y4 : Int32) (y5 : Int32), fX8_open_b42 k31 fuel state opened y1 y2 y3 y4 y5 = some res → ∀ (H : Heap) (locs : List Loc), va_P (dC, dI) vwCl (modelW cyI m0 m1 m2 m3 m4 m5 m6 state history recorded slots isSaved pad padLength opened pos letter first second) H → va_D A (modelW cyI m0 m1 m2 m3 m4 m5 m6 state history recorded slots isSaved pad padLength opened pos letter first second) → va_S A s.heap H locs → ∀ ls : Array Slot, lv_has ls 7 [(0, .ref m0), (1, .int y1), (2, .int y2), (3, .int y3), (4, .int y4), (5, .int y5)] → W p l e (headSpec (wsG yX8_open cX8_open 7 none) ({ frames := 4, cells := 0, slots := 0, locals := 91 })).room s m (([.ref m0, .int x1, .int x2, .int x3] : List Value).toArray) below meth c H locs 0 0 (MQ below (cV dC dI (modelW cyI m0 m1 m2 m3 m4 m5 m6 state history recorded slots isSaved pad padLength res pos letter first second) A) ([.ref m0, .int x1, .int x2, .int x3] : List Value).toArray s 0 0 A) (F0 m 42 ls []) := by
    intro k31 hk31 fuel
    induction fuel with
    | zero => intro state opened y1 y2 y3 y4 y5 h; rw [fX8_open_b42] at h; cases h
    | succ fuel ih =>
      intro state opened y1 y2 y3 y4 y5 h H locs hP hD hS ls hl
      rw [fX8_open_b42] at h
      refine lv_iload hx hb dX8_open_42 (lv_at hl 5 rfl) ?_
      refine lv_aload_n hx hb dX8_open_44 rfl (lv_at hl 0 rfl) ?_
      refine va_get (D := (dC, dI)) (ci := 8) (v := .ref m1) (C := RX8) (T := TX8) (N := 12) hx hb hts (fun w h9 => gb_mem (lay_X8 w h9)) hown hK.1 hP 0 rfl rfl 0 (by decide) (hts _ (gb_mem fl_X8_7)) (fun _ h9 => h9) rfl dX8_open_45 ?_
      refine lv_iconst (v := 3) hx hb dX8_open_48 (by decide) ?_
      obtain ⟨ni12, h⟩ := ifn h
      refine va_iald hx hb hK.1 hP 1 0 rfl rfl ni12 dX8_open_49 ?_
      refine lv_icmp_ge (tgt := 144) hx hb dX8_open_50 (by decide) (fun c13 => ?_) (fun c13 => ?_)
      · have h := (if_pos c13).symm.trans h
        refine lv_goto (tgt := 31) hx hb dX8_open_144 (by decide) ?_
        exact hk31 state opened y1 y2 y3 y4 h _ _ hP hD hS ls (lv_sub hl [0, 1, 2, 3, 4] rfl)
      · have h := (if_neg c13).symm.trans h
        refine lv_aload_n hx hb dX8_open_53 rfl (lv_at hl 0 rfl) ?_
        refine lv_iload hx hb dX8_open_54 (lv_at hl 5 rfl) ?_
        refine lv_iconst (v := 5) hx hb dX8_open_56 (by decide) ?_
        obtain ⟨q14, e15, h⟩ := ob h
        refine fr_ir (M := (modelW cyI m0 m1 m2 m3 m4 m5 m6 state history recorded slots isSaved pad padLength opened pos letter first second)) (va_runV (As := [.int y5, .int 5]) (rest := []) ⟨hx, hb, hml, hown, hts⟩ (mX8_wrapPart l dC dI cyI cyO m0 m1 m2 m3 m4 m5 m6 state history recorded slots isSaved pad padLength opened pos letter first second y5 5 _ q14 e15) (cwV 2 hts (gV ml_X8_81 im_X8_wrapPart se_X8_wrapPart in_X8 co_X8_wrapPart) rfl rfl rfl (by decide +kernel) ⟨Nat.le_of_ble_eq_true rfl, Nat.le_of_ble_eq_true rfl⟩) (cP_V hK hP hD [0, 1, 2, 3, 4, 5, 6] rfl rfl 0 rfl rfl) rfl rfl hl.1 rfl (lv_room (Nat.le_of_ble_eq_true rfl)) dX8_open_57 ⟨Nat.zero_le _, Nat.zero_le _⟩) hP hD hS hA [0, 1, 2, 3, 4, 5, 6] rfl (fun H locs hP hS => ?_)
        refine lv_iload_n hx hb dX8_open_60 rfl (lv_at hl 1 rfl) ?_
        refine lv_iand hx hb dX8_open_61 ?_
        refine lv_if_ne (tgt := 82) hx hb dX8_open_62 (by decide) (fun c16 => ?_) (fun c16 => ?_)
        · have h := (if_neg c16).symm.trans h
          refine lv_iconst (v := 1) hx hb dX8_open_82 (by decide) ?_
          refine lv_goto (tgt := 87) hx hb dX8_open_83 (by decide) ?_
          exact kB87 k31 hk31 (fX8_open_b42 k31 fuel) ih state opened y1 y2 y3 y4 y5 1 h _ _ hP hD hS ls (lv_sub hl [0, 1, 2, 3, 4, 5] rfl)
        · have h := (if_pos c16).symm.trans h
          refine lv_iload_n hx hb dX8_open_65 rfl (lv_at hl 2 rfl) ?_
          refine lv_bipush (v := (-6)) hx hb dX8_open_66 (by decide) ?_
          refine lv_icmp_ne (tgt := 86) hx hb dX8_open_68 (by decide) (fun c17 => ?_) (fun c17 => ?_)
          · have h := (if_neg c17).symm.trans h
            refine lv_iconst (v := 0) hx hb dX8_open_86 (by decide) ?_
            exact kB87 k31 hk31 (fX8_open_b42 k31 fuel) ih state opened y1 y2 y3 y4 y5 0 h _ _ hP hD hS ls (lv_sub hl [0, 1, 2, 3, 4, 5] rfl)
          · have h := (if_pos c17).symm.trans h
            refine lv_aload_n hx hb dX8_open_71 rfl (lv_at hl 0 rfl) ?_
            refine lv_iload hx hb dX8_open_72 (lv_at hl 5 rfl) ?_
            refine lv_iconst (v := 4) hx hb dX8_open_74 (by decide) ?_
            obtain ⟨q18, e19, h⟩ := ob h
            refine fr_ir (M := (modelW cyI m0 m1 m2 m3 m4 m5 m6 state history recorded slots isSaved pad padLength opened pos letter first second)) (va_runV (As := [.int y5, .int 4]) (rest := []) ⟨hx, hb, hml, hown, hts⟩ (mX8_wrapPart l dC dI cyI cyO m0 m1 m2 m3 m4 m5 m6 state history recorded slots isSaved pad padLength opened pos letter first second y5 4 _ q18 e19) (cwV 2 hts (gV ml_X8_81 im_X8_wrapPart se_X8_wrapPart in_X8 co_X8_wrapPart) rfl rfl rfl (by decide +kernel) ⟨Nat.le_of_ble_eq_true rfl, Nat.le_of_ble_eq_true rfl⟩) (cP_V hK hP hD [0, 1, 2, 3, 4, 5, 6] rfl rfl 0 rfl rfl) rfl rfl hl.1 rfl (lv_room (Nat.le_of_ble_eq_true rfl)) dX8_open_75 ⟨Nat.zero_le _, Nat.zero_le _⟩) hP hD hS hA [0, 1, 2, 3, 4, 5, 6] rfl (fun H locs hP hS => ?_)
            refine lv_iconst (v := 1) hx hb dX8_open_78 (by decide) ?_
            refine lv_icmp_ne (tgt := 86) hx hb dX8_open_79 (by decide) (fun c20 => ?_) (fun c20 => ?_)
            · have h := (if_neg c20).symm.trans h
              refine lv_iconst (v := 0) hx hb dX8_open_86 (by decide) ?_
              exact kB87 k31 hk31 (fX8_open_b42 k31 fuel) ih state opened y1 y2 y3 y4 y5 0 h _ _ hP hD hS ls (lv_sub hl [0, 1, 2, 3, 4, 5] rfl)
            · have h := (if_pos c20).symm.trans h
              refine lv_iconst (v := 1) hx hb dX8_open_82 (by decide) ?_
              refine lv_goto (tgt := 87) hx hb dX8_open_83 (by decide) ?_
              exact kB87 k31 hk31 (fX8_open_b42 k31 fuel) ih state opened y1 y2 y3 y4 y5 1 h _ _ hP hD hS ls (lv_sub hl [0, 1, 2, 3, 4, 5] rfl)
  have kB31 : ∀ (fuel : Nat) (state : Nat → Int32) (opened : Nat → Int32) (y1 : Int32) (y2 : Int32) (y3 : Int32) (y4 : Int32), fX8_open_b31 fuel state opened y1 y2 y3 y4 = some res → ∀ (H : Heap) (locs : List Loc), va_P (dC, dI) vwCl (modelW cyI m0 m1 m2 m3 m4 m5 m6 state history recorded slots isSaved pad padLength opened pos letter first second) H → va_D A (modelW cyI m0 m1 m2 m3 m4 m5 m6 state history recorded slots isSaved pad padLength opened pos letter first second) → va_S A s.heap H locs → ∀ ls : Array Slot, lv_has ls 7 [(0, .ref m0), (1, .int y1), (2, .int y2), (3, .int y3), (4, .int y4)] → W p l e (headSpec (wsG yX8_open cX8_open 7 none) ({ frames := 4, cells := 0, slots := 0, locals := 91 })).room s m (([.ref m0, .int x1, .int x2, .int x3] : List Value).toArray) below meth c H locs 0 0 (MQ below (cV dC dI (modelW cyI m0 m1 m2 m3 m4 m5 m6 state history recorded slots isSaved pad padLength res pos letter first second) A) ([.ref m0, .int x1, .int x2, .int x3] : List Value).toArray s 0 0 A) (F0 m 31 ls []) := by
    intro fuel
    induction fuel with
    | zero => intro state opened y1 y2 y3 y4 h; rw [fX8_open_b31] at h; cases h
    | succ fuel ih =>
      intro state opened y1 y2 y3 y4 h H locs hP hD hS ls hl
      rw [fX8_open_b31] at h
      refine lv_iload hx hb dX8_open_31 (lv_at hl 4 rfl) ?_
      refine lv_if_eq (tgt := 147) hx hb dX8_open_33 (by decide) (fun c21 => ?_) (fun c21 => ?_)
      · have h := (if_pos c21).symm.trans h
        obtain rfl := Option.some.inj h
        exact e_v hx hb hr hlocks hP hS dX8_open_147
      · have h := (if_neg c21).symm.trans h
        refine lv_iconst (v := 0) hx hb dX8_open_36 (by decide) ?_
        refine lv_istore (lv' := [(4, .int 0), (0, .ref m0), (1, .int y1), (2, .int y2), (3, .int y3)]) hx hb dX8_open_37 hl (by decide) rfl (fun ls hl => ?_)
        refine lv_iconst (v := 0) hx hb dX8_open_39 (by decide) ?_
        refine lv_istore (lv' := [(5, .int 0), (4, .int 0), (0, .ref m0), (1, .int y1), (2, .int y2), (3, .int y3)]) hx hb dX8_open_40 hl (by decide) rfl (fun ls hl => ?_)
        exact kB42 (fX8_open_b31 fuel) ih 6000 state opened y1 y2 y3 0 0 h _ _ hP hD hS ls (lv_sub hl [2, 3, 4, 5, 1, 0] rfl)
  have kB3 : ∀ (fuel : Nat) (state : Nat → Int32) (opened : Nat → Int32) (y1 : Int32) (y2 : Int32) (y3 : Int32) (y4 : Int32), fX8_open_b3 fuel state opened y1 y2 y3 y4 = some res → ∀ (H : Heap) (locs : List Loc), va_P (dC, dI) vwCl (modelW cyI m0 m1 m2 m3 m4 m5 m6 state history recorded slots isSaved pad padLength opened pos letter first second) H → va_D A (modelW cyI m0 m1 m2 m3 m4 m5 m6 state history recorded slots isSaved pad padLength opened pos letter first second) → va_S A s.heap H locs → ∀ ls : Array Slot, lv_has ls 7 [(0, .ref m0), (1, .int y1), (2, .int y2), (3, .int y3), (4, .int y4)] → W p l e (headSpec (wsG yX8_open cX8_open 7 none) ({ frames := 4, cells := 0, slots := 0, locals := 91 })).room s m (([.ref m0, .int x1, .int x2, .int x3] : List Value).toArray) below meth c H locs 0 0 (MQ below (cV dC dI (modelW cyI m0 m1 m2 m3 m4 m5 m6 state history recorded slots isSaved pad padLength res pos letter first second) A) ([.ref m0, .int x1, .int x2, .int x3] : List Value).toArray s 0 0 A) (F0 m 3 ls []) := by
    intro fuel
    induction fuel with
    | zero => intro state opened y1 y2 y3 y4 h; rw [fX8_open_b3] at h; cases h
    | succ fuel ih =>
      intro state opened y1 y2 y3 y4 h H locs hP hD hS ls hl
      rw [fX8_open_b3] at h
      refine lv_iload hx hb dX8_open_3 (lv_at hl 4 rfl) ?_
      refine lv_aload_n hx hb dX8_open_5 rfl (lv_at hl 0 rfl) ?_
      refine va_get (D := (dC, dI)) (ci := 8) (v := .ref m1) (C := RX8) (T := TX8) (N := 12) hx hb hts (fun w h9 => gb_mem (lay_X8 w h9)) hown hK.1 hP 0 rfl rfl 0 (by decide) (hts _ (gb_mem fl_X8_7)) (fun _ h9 => h9) rfl dX8_open_6 ?_
      refine lv_iconst (v := 3) hx hb dX8_open_9 (by decide) ?_
      obtain ⟨ni22, h⟩ := ifn h
      refine va_iald hx hb hK.1 hP 1 0 rfl rfl ni22 dX8_open_10 ?_
      refine lv_icmp_ge (tgt := 28) hx hb dX8_open_11 (by decide) (fun c23 => ?_) (fun c23 => ?_)
      · have h := (if_pos c23).symm.trans h
        refine lv_iconst (v := 1) hx hb dX8_open_28 (by decide) ?_
        refine lv_istore (lv' := [(4, .int 1), (0, .ref m0), (1, .int y1), (2, .int y2), (3, .int y3)]) hx hb dX8_open_29 hl (by decide) rfl (fun ls hl => ?_)
        exact kB31 6000 state opened y1 y2 y3 1 h _ _ hP hD hS ls (lv_sub hl [1, 2, 3, 4, 0] rfl)
      · have h := (if_neg c23).symm.trans h
        refine lv_aload_n hx hb dX8_open_14 rfl (lv_at hl 0 rfl) ?_
        refine va_get (D := (dC, dI)) (ci := 8) (v := .ref m6) (C := RX8) (T := TX8) (N := 12) hx hb hts (fun w h9 => gb_mem (lay_X8 w h9)) hown hK.1 hP 0 rfl rfl 7 (by decide) (hts _ (gb_mem fl_X8_25)) (fun _ h9 => h9) rfl dX8_open_15 ?_
        refine lv_iload hx hb dX8_open_18 (lv_at hl 4 rfl) ?_
        refine lv_iconst (v := 0) hx hb dX8_open_20 (by decide) ?_
        obtain ⟨ni24, h⟩ := ifn h
        refine va_iast hx hb hK.1 hP hD hS 6 0 rfl rfl ni24 dX8_open_21 (fun H locs hP hD hS => ?_)
        have hP : va_P (dC, dI) vwCl (modelW cyI m0 m1 m2 m3 m4 m5 m6 state history recorded slots isSaved pad padLength (upd opened y4.toNatClampNeg 0) pos letter first second) H := hP
        have hD : va_D A (modelW cyI m0 m1 m2 m3 m4 m5 m6 state history recorded slots isSaved pad padLength (upd opened y4.toNatClampNeg 0) pos letter first second) := hD
        refine lv_iinc (v := (y4 + 1)) (lv' := [(4, .int (y4 + 1)), (0, .ref m0), (1, .int y1), (2, .int y2), (3, .int y3)]) hx hb dX8_open_22 hl (k := 4) rfl rfl (by decide) rfl (fun ls hl => ?_)
        refine lv_goto (tgt := 3) hx hb dX8_open_25 (by decide) ?_
        exact ih state (upd opened y4.toNatClampNeg 0) y1 y2 y3 (y4 + 1) h _ _ hP hD hS ls (lv_sub hl [1, 2, 3, 4, 0] rfl)
  have hl := lv_entry ([.ref m0, .int x1, .int x2, .int x3]) (n := 7) (Nat.le_of_ble_eq_true rfl)
  rw [lg_entry_eq]
  generalize (lg_sl ([.ref m0, .int x1, .int x2, .int x3]) ++ List.replicate (7 - (lg_sl ([.ref m0, .int x1, .int x2, .int x3])).length) Slot.unset).toArray = ls at hl ⊢
  have hl : lv_has ls 7 [(0, .ref m0), (1, .int x1), (2, .int x2), (3, .int x3)] := hl
  unfold fX8_open at h
  refine lv_iconst (v := 0) hx hb dX8_open_0 (by decide) ?_
  refine lv_istore (lv' := [(4, .int 0), (0, .ref m0), (1, .int x1), (2, .int x2), (3, .int x3)]) hx hb dX8_open_1 hl (by decide) rfl (fun ls hl => ?_)
  exact kB3 6000 state opened x1 x2 x3 0 h _ _ hP hD hS ls (lv_sub hl [1, 2, 3, 4, 0] rfl)
noncomputable def fX8_openBoxes_b4 : Nat → (Nat → Int32) → (Nat → Int32) → Int32 → Int32 → Option (Int32)
  | 0, _, _, _, _ => none
  | fuel + 1, state, opened, y1, y2 =>
  (if (3 : Int32) < 0 ∨ 844 ≤ (3 : Int32).toNatClampNeg then none else (if (state (3 : Int32).toNatClampNeg) ≤ y2 then (some y1) else (if y2 < 0 ∨ 120 ≤ y2.toNatClampNeg then none else (if (opened y2.toNatClampNeg) = 1 then ((fX8_wrapPart state y2 0).bind fun q5 => (if q5 = (-6) then ((fX8_wrapPart state y2 1).bind fun q8 => fX8_openBoxes_b4 fuel state opened (y1 ||| (1 <<< (q8 &&& 31))) (y2 + 1)) else fX8_openBoxes_b4 fuel state opened (y1 ||| 0) (y2 + 1))) else fX8_openBoxes_b4 fuel state opened (y1 ||| 0) (y2 + 1)))))

noncomputable def fX8_openBoxes (state : Nat → Int32) (opened : Nat → Int32) : Option (Int32) :=
  fX8_openBoxes_b4 6000 state opened 0 0
set_option maxHeartbeats 1000000 in
set_option maxRecDepth 100000 in
theorem mX8_openBoxes (l : Launch) (dC : Nat → ClassId) (dI : Nat → Nat → Nat) (cyI cyO : ClassId) (m0 m1 m2 m3 m4 m5 m6 : Nat) (state : Nat → Int32) (history : Nat → Int32) (recorded : Int32) (slots : Nat → Int32) (isSaved : Nat → Int32) (pad : Nat → Int32) (padLength : Int32) (opened : Nat → Int32) (pos : Int32) (letter : Int32) (first : Int32) (second : Int32)  (sz : Nat) (res : Int32) (h : fX8_openBoxes state opened = some res) : Met l yX8_openBoxes (wsG yX8_openBoxes cX8_openBoxes 3 (some .int)) ({ frames := 1, cells := 0, slots := 0, locals := 22 }) (cP dC dI cyI cyO sz [.ref m0] (modelW cyI m0 m1 m2 m3 m4 m5 m6 state history recorded slots isSaved pad padLength opened pos letter first second)) (cI dC dI res (modelW cyI m0 m1 m2 m3 m4 m5 m6 state history recorded slots isSaved pad padLength opened pos letter first second) (va_A (modelW cyI m0 m1 m2 m3 m4 m5 m6 state history recorded slots isSaved pad padLength opened pos letter first second) sz)) 0 0 (va_A (modelW cyI m0 m1 m2 m3 m4 m5 m6 state history recorded slots isSaved pad padLength opened pos letter first second) sz) := by
  refine Met.ofW (cc := cX8_openBoxes) (maxL := 3) (ret := (some .int)) (by decide) rfl ?_
  intro p e s m args below meth c s₁ B hml hv
  obtain ⟨rfl, hsz, hP, hK, hD0⟩ := hv
  have hx := B.exec
  have hb := B.bytes
  have hr := B.returns
  have hts := atoms_spec (ws := wsG yX8_openBoxes cX8_openBoxes 3 (some .int)) B.pre
  have hown : s.vm.findClass RX8 = some m.cls := findClass_of_methodNamed B.named
  have hlocks := B.notSynchronized
  subst hsz
  have hD := hD0.self (sz := s.heap.size)
  generalize hAe : va_A (modelW cyI m0 m1 m2 m3 m4 m5 m6 state history recorded slots isSaved pad padLength opened pos letter first second) s.heap.size = A at hD ⊢
  have hA : ∀ q : Nat, s.heap.size ≤ q → A q := fun q h => by rw [← hAe]; exact Or.inr h
  have hS : va_S A s.heap s.heap [] := va_S.rf
  have kB4 : ∀ (fuel : Nat) (state : Nat → Int32) (opened : Nat → Int32) (y1 : Int32) (y2 : Int32), fX8_openBoxes_b4 fuel state opened y1 y2 = some res → ∀ (H : Heap) (locs : List Loc), va_P (dC, dI) vwCl (modelW cyI m0 m1 m2 m3 m4 m5 m6 state history recorded slots isSaved pad padLength opened pos letter first second) H → va_D A (modelW cyI m0 m1 m2 m3 m4 m5 m6 state history recorded slots isSaved pad padLength opened pos letter first second) → va_S A s.heap H locs → ∀ ls : Array Slot, lv_has ls 3 [(0, .ref m0), (1, .int y1), (2, .int y2)] → W p l e (headSpec (wsG yX8_openBoxes cX8_openBoxes 3 (some .int)) ({ frames := 1, cells := 0, slots := 0, locals := 22 })).room s m (([.ref m0] : List Value).toArray) below meth c H locs 0 0 (MQ below (cI dC dI res (modelW cyI m0 m1 m2 m3 m4 m5 m6 state history recorded slots isSaved pad padLength opened pos letter first second) A) ([.ref m0] : List Value).toArray s 0 0 A) (F0 m 4 ls []) := by
    intro fuel
    induction fuel with
    | zero => intro state opened y1 y2 h; rw [fX8_openBoxes_b4] at h; cases h
    | succ fuel ih =>
      intro state opened y1 y2 h H locs hP hD hS ls hl
      rw [fX8_openBoxes_b4] at h
      refine lv_iload_n hx hb dX8_openBoxes_4 rfl (lv_at hl 2 rfl) ?_
      refine lv_aload_n hx hb dX8_openBoxes_5 rfl (lv_at hl 0 rfl) ?_
      refine va_get (D := (dC, dI)) (ci := 8) (v := .ref m1) (C := RX8) (T := TX8) (N := 12) hx hb hts (fun w h9 => gb_mem (lay_X8 w h9)) hown hK.1 hP 0 rfl rfl 0 (by decide) (hts _ (gb_mem fl_X8_7)) (fun _ h9 => h9) rfl dX8_openBoxes_6 ?_
      refine lv_iconst (v := 3) hx hb dX8_openBoxes_9 (by decide) ?_
      obtain ⟨ni1, h⟩ := ifn h
      refine va_iald hx hb hK.1 hP 1 0 rfl rfl ni1 dX8_openBoxes_10 ?_
      refine lv_icmp_ge (tgt := 56) hx hb dX8_openBoxes_11 (by decide) (fun c2 => ?_) (fun c2 => ?_)
      · have h := (if_pos c2).symm.trans h
        refine lv_iload_n hx hb dX8_openBoxes_56 rfl (lv_at hl 1 rfl) ?_
        obtain rfl := Option.some.inj h
        exact e_i hx hb hr hlocks hP hS dX8_openBoxes_57
      · have h := (if_neg c2).symm.trans h
        refine lv_iload_n hx hb dX8_openBoxes_14 rfl (lv_at hl 1 rfl) ?_
        refine lv_aload_n hx hb dX8_openBoxes_15 rfl (lv_at hl 0 rfl) ?_
        refine va_get (D := (dC, dI)) (ci := 8) (v := .ref m6) (C := RX8) (T := TX8) (N := 12) hx hb hts (fun w h9 => gb_mem (lay_X8 w h9)) hown hK.1 hP 0 rfl rfl 7 (by decide) (hts _ (gb_mem fl_X8_25)) (fun _ h9 => h9) rfl dX8_openBoxes_16 ?_
        refine lv_iload_n hx hb dX8_openBoxes_19 rfl (lv_at hl 2 rfl) ?_
        obtain ⟨ni3, h⟩ := ifn h
        refine va_iald hx hb hK.1 hP 6 0 rfl rfl ni3 dX8_openBoxes_20 ?_
        refine lv_iconst (v := 1) hx hb dX8_openBoxes_21 (by decide) ?_
        refine lv_icmp_ne (tgt := 47) hx hb dX8_openBoxes_22 (by decide) (fun c4 => ?_) (fun c4 => ?_)
        · have h := (if_neg c4).symm.trans h
          refine lv_iconst (v := 0) hx hb dX8_openBoxes_47 (by decide) ?_
          refine lv_ior hx hb dX8_openBoxes_48 ?_
          refine lv_istore_n (lv' := [(1, .int (y1 ||| 0)), (0, .ref m0), (2, .int y2)]) hx hb dX8_openBoxes_49 rfl hl (by decide) rfl (fun ls hl => ?_)
          refine lv_iinc (v := (y2 + 1)) (lv' := [(2, .int (y2 + 1)), (1, .int (y1 ||| 0)), (0, .ref m0)]) hx hb dX8_openBoxes_50 hl (k := 2) rfl rfl (by decide) rfl (fun ls hl => ?_)
          refine lv_goto (tgt := 4) hx hb dX8_openBoxes_53 (by decide) ?_
          exact ih state opened (y1 ||| 0) (y2 + 1) h _ _ hP hD hS ls (lv_sub hl [2, 1, 0] rfl)
        · have h := (if_pos c4).symm.trans h
          refine lv_aload_n hx hb dX8_openBoxes_25 rfl (lv_at hl 0 rfl) ?_
          refine lv_iload_n hx hb dX8_openBoxes_26 rfl (lv_at hl 2 rfl) ?_
          refine lv_iconst (v := 0) hx hb dX8_openBoxes_27 (by decide) ?_
          obtain ⟨q5, e6, h⟩ := ob h
          refine fr_ir (M := (modelW cyI m0 m1 m2 m3 m4 m5 m6 state history recorded slots isSaved pad padLength opened pos letter first second)) (va_runV (As := [.int y2, .int 0]) (rest := [.int y1]) ⟨hx, hb, hml, hown, hts⟩ (mX8_wrapPart l dC dI cyI cyO m0 m1 m2 m3 m4 m5 m6 state history recorded slots isSaved pad padLength opened pos letter first second y2 0 _ q5 e6) (cwV 2 hts (gV ml_X8_81 im_X8_wrapPart se_X8_wrapPart in_X8 co_X8_wrapPart) rfl rfl rfl (by decide +kernel) ⟨Nat.le_of_ble_eq_true rfl, Nat.le_of_ble_eq_true rfl⟩) (cP_V hK hP hD [0, 1, 2, 3, 4, 5, 6] rfl rfl 0 rfl rfl) rfl rfl hl.1 rfl (lv_room (Nat.le_of_ble_eq_true rfl)) dX8_openBoxes_28 ⟨Nat.zero_le _, Nat.zero_le _⟩) hP hD hS hA [0, 1, 2, 3, 4, 5, 6] rfl (fun H locs hP hS => ?_)
          refine lv_bipush (v := (-6)) hx hb dX8_openBoxes_31 (by decide) ?_
          refine lv_icmp_ne (tgt := 47) hx hb dX8_openBoxes_33 (by decide) (fun c7 => ?_) (fun c7 => ?_)
          · have h := (if_neg c7).symm.trans h
            refine lv_iconst (v := 0) hx hb dX8_openBoxes_47 (by decide) ?_
            refine lv_ior hx hb dX8_openBoxes_48 ?_
            refine lv_istore_n (lv' := [(1, .int (y1 ||| 0)), (0, .ref m0), (2, .int y2)]) hx hb dX8_openBoxes_49 rfl hl (by decide) rfl (fun ls hl => ?_)
            refine lv_iinc (v := (y2 + 1)) (lv' := [(2, .int (y2 + 1)), (1, .int (y1 ||| 0)), (0, .ref m0)]) hx hb dX8_openBoxes_50 hl (k := 2) rfl rfl (by decide) rfl (fun ls hl => ?_)
            refine lv_goto (tgt := 4) hx hb dX8_openBoxes_53 (by decide) ?_
            exact ih state opened (y1 ||| 0) (y2 + 1) h _ _ hP hD hS ls (lv_sub hl [2, 1, 0] rfl)
          · have h := (if_pos c7).symm.trans h
            refine lv_iconst (v := 1) hx hb dX8_openBoxes_36 (by decide) ?_
            refine lv_aload_n hx hb dX8_openBoxes_37 rfl (lv_at hl 0 rfl) ?_
            refine lv_iload_n hx hb dX8_openBoxes_38 rfl (lv_at hl 2 rfl) ?_
            refine lv_iconst (v := 1) hx hb dX8_openBoxes_39 (by decide) ?_
            obtain ⟨q8, e9, h⟩ := ob h
            refine fr_ir (M := (modelW cyI m0 m1 m2 m3 m4 m5 m6 state history recorded slots isSaved pad padLength opened pos letter first second)) (va_runV (As := [.int y2, .int 1]) (rest := [.int 1, .int y1]) ⟨hx, hb, hml, hown, hts⟩ (mX8_wrapPart l dC dI cyI cyO m0 m1 m2 m3 m4 m5 m6 state history recorded slots isSaved pad padLength opened pos letter first second y2 1 _ q8 e9) (cwV 2 hts (gV ml_X8_81 im_X8_wrapPart se_X8_wrapPart in_X8 co_X8_wrapPart) rfl rfl rfl (by decide +kernel) ⟨Nat.le_of_ble_eq_true rfl, Nat.le_of_ble_eq_true rfl⟩) (cP_V hK hP hD [0, 1, 2, 3, 4, 5, 6] rfl rfl 0 rfl rfl) rfl rfl hl.1 rfl (lv_room (Nat.le_of_ble_eq_true rfl)) dX8_openBoxes_40 ⟨Nat.zero_le _, Nat.zero_le _⟩) hP hD hS hA [0, 1, 2, 3, 4, 5, 6] rfl (fun H locs hP hS => ?_)
            refine lv_ishl hx hb dX8_openBoxes_43 ?_
            refine lv_goto (tgt := 48) hx hb dX8_openBoxes_44 (by decide) ?_
            refine lv_ior hx hb dX8_openBoxes_48 ?_
            refine lv_istore_n (lv' := [(1, .int (y1 ||| (1 <<< (q8 &&& 31)))), (0, .ref m0), (2, .int y2)]) hx hb dX8_openBoxes_49 rfl hl (by decide) rfl (fun ls hl => ?_)
            refine lv_iinc (v := (y2 + 1)) (lv' := [(2, .int (y2 + 1)), (1, .int (y1 ||| (1 <<< (q8 &&& 31)))), (0, .ref m0)]) hx hb dX8_openBoxes_50 hl (k := 2) rfl rfl (by decide) rfl (fun ls hl => ?_)
            refine lv_goto (tgt := 4) hx hb dX8_openBoxes_53 (by decide) ?_
            exact ih state opened (y1 ||| (1 <<< (q8 &&& 31))) (y2 + 1) h _ _ hP hD hS ls (lv_sub hl [2, 1, 0] rfl)
  have hl := lv_entry ([.ref m0]) (n := 3) (Nat.le_of_ble_eq_true rfl)
  rw [lg_entry_eq]
  generalize (lg_sl ([.ref m0]) ++ List.replicate (3 - (lg_sl ([.ref m0])).length) Slot.unset).toArray = ls at hl ⊢
  have hl : lv_has ls 3 [(0, .ref m0)] := hl
  unfold fX8_openBoxes at h
  refine lv_iconst (v := 0) hx hb dX8_openBoxes_0 (by decide) ?_
  refine lv_istore_n (lv' := [(1, .int 0), (0, .ref m0)]) hx hb dX8_openBoxes_1 rfl hl (by decide) rfl (fun ls hl => ?_)
  refine lv_iconst (v := 0) hx hb dX8_openBoxes_2 (by decide) ?_
  refine lv_istore_n (lv' := [(2, .int 0), (1, .int 0), (0, .ref m0)]) hx hb dX8_openBoxes_3 rfl hl (by decide) rfl (fun ls hl => ?_)
  exact kB4 6000 state opened 0 0 h _ _ hP hD hS ls (lv_sub hl [2, 1, 0] rfl)

noncomputable def fX8_openWith (state : Nat → Int32) (opened : Nat → Int32) (x1 : Int32) : Option (Int32 × (Nat → Int32)) :=
  ((fX8_open state opened x1 (-6) 0).bind fun q1 => ((fX8_openBoxes state q1).bind fun q3 => (some (q3, q1))))
set_option maxHeartbeats 1000000 in
set_option maxRecDepth 100000 in
theorem mX8_openWith (l : Launch) (dC : Nat → ClassId) (dI : Nat → Nat → Nat) (cyI cyO : ClassId) (m0 m1 m2 m3 m4 m5 m6 : Nat) (state : Nat → Int32) (history : Nat → Int32) (recorded : Int32) (slots : Nat → Int32) (isSaved : Nat → Int32) (pad : Nat → Int32) (padLength : Int32) (opened : Nat → Int32) (pos : Int32) (letter : Int32) (first : Int32) (second : Int32) (x1 : Int32) (sz : Nat) (res : Int32 × (Nat → Int32)) (h : fX8_openWith state opened x1 = some res) : Met l yX8_openWith (wsG yX8_openWith cX8_openWith 2 (some .int)) ({ frames := 5, cells := 0, slots := 0, locals := 117 }) (cP dC dI cyI cyO sz [.ref m0, .int x1] (modelW cyI m0 m1 m2 m3 m4 m5 m6 state history recorded slots isSaved pad padLength opened pos letter first second)) (cI dC dI res.1 (modelW cyI m0 m1 m2 m3 m4 m5 m6 state history recorded slots isSaved pad padLength res.2 pos letter first second) (va_A (modelW cyI m0 m1 m2 m3 m4 m5 m6 state history recorded slots isSaved pad padLength opened pos letter first second) sz)) 0 0 (va_A (modelW cyI m0 m1 m2 m3 m4 m5 m6 state history recorded slots isSaved pad padLength opened pos letter first second) sz) := by
  refine Met.ofW (cc := cX8_openWith) (maxL := 2) (ret := (some .int)) (by decide) rfl ?_
  intro p e s m args below meth c s₁ B hml hv
  obtain ⟨rfl, hsz, hP, hK, hD0⟩ := hv
  have hx := B.exec
  have hb := B.bytes
  have hr := B.returns
  have hts := atoms_spec (ws := wsG yX8_openWith cX8_openWith 2 (some .int)) B.pre
  have hown : s.vm.findClass RX8 = some m.cls := findClass_of_methodNamed B.named
  have hlocks := B.notSynchronized
  subst hsz
  have hD := hD0.self (sz := s.heap.size)
  generalize hAe : va_A (modelW cyI m0 m1 m2 m3 m4 m5 m6 state history recorded slots isSaved pad padLength opened pos letter first second) s.heap.size = A at hD ⊢
  have hA : ∀ q : Nat, s.heap.size ≤ q → A q := fun q h => by rw [← hAe]; exact Or.inr h
  have hS : va_S A s.heap s.heap [] := va_S.rf
  have hl := lv_entry ([.ref m0, .int x1]) (n := 2) (Nat.le_of_ble_eq_true rfl)
  rw [lg_entry_eq]
  generalize (lg_sl ([.ref m0, .int x1]) ++ List.replicate (2 - (lg_sl ([.ref m0, .int x1])).length) Slot.unset).toArray = ls at hl ⊢
  have hl : lv_has ls 2 [(0, .ref m0), (1, .int x1)] := hl
  unfold fX8_openWith at h
  refine lv_aload_n hx hb dX8_openWith_0 rfl (lv_at hl 0 rfl) ?_
  refine lv_iload_n hx hb dX8_openWith_1 rfl (lv_at hl 1 rfl) ?_
  refine lv_bipush (v := (-6)) hx hb dX8_openWith_2 (by decide) ?_
  refine lv_iconst (v := 0) hx hb dX8_openWith_4 (by decide) ?_
  obtain ⟨q1, e2, h⟩ := ob h
  refine fr_v (M := (modelW cyI m0 m1 m2 m3 m4 m5 m6 state history recorded slots isSaved pad padLength opened pos letter first second)) (M' := (modelW cyI m0 m1 m2 m3 m4 m5 m6 state history recorded slots isSaved pad padLength q1 pos letter first second)) (L' := (modelW cyI m0 m1 m2 m3 m4 m5 m6 state history recorded slots isSaved pad padLength q1 pos letter first second)) (va_runV (As := [.int x1, .int (-6), .int 0]) (rest := []) ⟨hx, hb, hml, hown, hts⟩ (mX8_open l dC dI cyI cyO m0 m1 m2 m3 m4 m5 m6 state history recorded slots isSaved pad padLength opened pos letter first second x1 (-6) 0 _ q1 e2) (cwV 3 hts (gV ml_X8_95 im_X8_open se_X8_open in_X8 co_X8_open) rfl rfl rfl (by decide +kernel) ⟨Nat.le_of_ble_eq_true rfl, Nat.le_of_ble_eq_true rfl⟩) (cP_V hK hP hD [0, 1, 2, 3, 4, 5, 6] rfl rfl 0 rfl rfl) rfl rfl hl.1 rfl (lv_room (Nat.le_of_ble_eq_true rfl)) dX8_openWith_5 ⟨Nat.zero_le _, Nat.zero_le _⟩) hP hD hS hA [0, 1, 2, 3, 4, 5, 6] rfl [(true, 0), (true, 1), (true, 2), (true, 3), (true, 4), (true, 5), (true, 6)] rfl rfl rfl (fun H locs hP hD hS => ?_)
  refine lv_aload_n hx hb dX8_openWith_8 rfl (lv_at hl 0 rfl) ?_
  obtain ⟨q3, e4, h⟩ := ob h
  refine fr_ir (M := (modelW cyI m0 m1 m2 m3 m4 m5 m6 state history recorded slots isSaved pad padLength q1 pos letter first second)) (va_runV (As := []) (rest := []) ⟨hx, hb, hml, hown, hts⟩ (mX8_openBoxes l dC dI cyI cyO m0 m1 m2 m3 m4 m5 m6 state history recorded slots isSaved pad padLength q1 pos letter first second _ q3 e4) (cwV 0 hts (gV ml_X8_98 im_X8_openBoxes se_X8_openBoxes in_X8 co_X8_openBoxes) rfl rfl rfl (by decide +kernel) ⟨Nat.le_of_ble_eq_true rfl, Nat.le_of_ble_eq_true rfl⟩) (cP_V hK hP hD [0, 1, 2, 3, 4, 5, 6] rfl rfl 0 rfl rfl) rfl rfl hl.1 rfl (lv_room (Nat.le_of_ble_eq_true rfl)) dX8_openWith_9 ⟨Nat.zero_le _, Nat.zero_le _⟩) hP hD hS hA [0, 1, 2, 3, 4, 5, 6] rfl (fun H locs hP hS => ?_)
  obtain rfl := Option.some.inj h
  exact e_i hx hb hr hlocks hP hS dX8_openWith_12

noncomputable def fX8_wear (state : Nat → Int32) (history : Nat → Int32) (recorded : Int32) (x1 : Int32) : Option (Int32 × (Nat → Int32) × (Nat → Int32) × Int32) :=
  (if (fX8_within x1 2 30) = 0 then (some ((-2), state, history, recorded)) else ((fX8_record state history recorded).bind fun q2 => (if (0 : Int32) < 0 ∨ 844 ≤ (0 : Int32).toNatClampNeg then none else (if (0 : Int32) < 0 ∨ 844 ≤ (0 : Int32).toNatClampNeg then none else (some ((state (0 : Int32).toNatClampNeg), (upd state (0 : Int32).toNatClampNeg x1), q2.1, q2.2))))))
set_option maxHeartbeats 1000000 in
set_option maxRecDepth 100000 in
theorem mX8_wear (l : Launch) (dC : Nat → ClassId) (dI : Nat → Nat → Nat) (cyI cyO : ClassId) (m0 m1 m2 m3 m4 m5 m6 : Nat) (state : Nat → Int32) (history : Nat → Int32) (recorded : Int32) (slots : Nat → Int32) (isSaved : Nat → Int32) (pad : Nat → Int32) (padLength : Int32) (opened : Nat → Int32) (pos : Int32) (letter : Int32) (first : Int32) (second : Int32) (x1 : Int32) (sz : Nat) (res : Int32 × (Nat → Int32) × (Nat → Int32) × Int32) (h : fX8_wear state history recorded x1 = some res) : Met l yX8_wear (wsG yX8_wear cX8_wear 3 (some .int)) ({ frames := 2, cells := 0, slots := 0, locals := 45 }) (cP dC dI cyI cyO sz [.ref m0, .int x1] (modelW cyI m0 m1 m2 m3 m4 m5 m6 state history recorded slots isSaved pad padLength opened pos letter first second)) (cI dC dI res.1 (modelW cyI m0 m1 m2 m3 m4 m5 m6 res.2.1 res.2.2.1 res.2.2.2 slots isSaved pad padLength opened pos letter first second) (va_A (modelW cyI m0 m1 m2 m3 m4 m5 m6 state history recorded slots isSaved pad padLength opened pos letter first second) sz)) 0 0 (va_A (modelW cyI m0 m1 m2 m3 m4 m5 m6 state history recorded slots isSaved pad padLength opened pos letter first second) sz) := by
  refine Met.ofW (cc := cX8_wear) (maxL := 3) (ret := (some .int)) (by decide) rfl ?_
  intro p e s m args below meth c s₁ B hml hv
  obtain ⟨rfl, hsz, hP, hK, hD0⟩ := hv
  have hx := B.exec
  have hb := B.bytes
  have hr := B.returns
  have hts := atoms_spec (ws := wsG yX8_wear cX8_wear 3 (some .int)) B.pre
  have hown : s.vm.findClass RX8 = some m.cls := findClass_of_methodNamed B.named
  have hlocks := B.notSynchronized
  subst hsz
  have hD := hD0.self (sz := s.heap.size)
  generalize hAe : va_A (modelW cyI m0 m1 m2 m3 m4 m5 m6 state history recorded slots isSaved pad padLength opened pos letter first second) s.heap.size = A at hD ⊢
  have hA : ∀ q : Nat, s.heap.size ≤ q → A q := fun q h => by rw [← hAe]; exact Or.inr h
  have hS : va_S A s.heap s.heap [] := va_S.rf
  have hl := lv_entry ([.ref m0, .int x1]) (n := 3) (Nat.le_of_ble_eq_true rfl)
  rw [lg_entry_eq]
  generalize (lg_sl ([.ref m0, .int x1]) ++ List.replicate (3 - (lg_sl ([.ref m0, .int x1])).length) Slot.unset).toArray = ls at hl ⊢
  have hl : lv_has ls 3 [(0, .ref m0), (1, .int x1)] := hl
  unfold fX8_wear at h
  refine lv_iload_n hx hb dX8_wear_0 rfl (lv_at hl 1 rfl) ?_
  refine lv_iconst (v := 2) hx hb dX8_wear_1 (by decide) ?_
  refine lv_bipush (v := 30) hx hb dX8_wear_2 (by decide) ?_
  refine fr_ir (M := ([] : va_W)) (va_runS (As := [.int x1, .int 2, .int 30]) (rest := []) ⟨hx, hb, hml, hown, hts⟩ (mX8_within l dC dI cyI cyO x1 2 30 _ (fX8_within x1 2 30) rfl) (va_cwS 3 hts (gS ml_X8_36 st_X8_within in_X8 co_X8_within) rfl rfl rfl (by decide +kernel) ⟨Nat.le_of_ble_eq_true rfl, Nat.le_of_ble_eq_true rfl⟩) (cP_S hK hP hD [] rfl rfl) rfl rfl hl.1 rfl (lv_room (Nat.le_of_ble_eq_true rfl)) dX8_wear_4 ⟨Nat.zero_le _, Nat.zero_le _⟩) hP hD hS hA [] rfl (fun H locs hP hS => ?_)
  refine lv_if_ne (tgt := 13) hx hb dX8_wear_7 (by decide) (fun c1 => ?_) (fun c1 => ?_)
  · have h := (if_neg c1).symm.trans h
    refine lv_aload_n hx hb dX8_wear_13 rfl (lv_at hl 0 rfl) ?_
    obtain ⟨q2, e3, h⟩ := ob h
    refine fr_v (M := (modelW cyI m0 m1 m2 m3 m4 m5 m6 state history recorded slots isSaved pad padLength opened pos letter first second)) (M' := (modelW cyI m0 m1 m2 m3 m4 m5 m6 state q2.1 q2.2 slots isSaved pad padLength opened pos letter first second)) (L' := (modelW cyI m0 m1 m2 m3 m4 m5 m6 state q2.1 q2.2 slots isSaved pad padLength opened pos letter first second)) (va_runV (As := []) (rest := []) ⟨hx, hb, hml, hown, hts⟩ (mX8_record l dC dI cyI cyO m0 m1 m2 m3 m4 m5 m6 state history recorded slots isSaved pad padLength opened pos letter first second _ q2 e3) (cwV 0 hts (gV ml_X8_102 im_X8_record se_X8_record in_X8 co_X8_record) rfl rfl rfl (by decide +kernel) ⟨Nat.le_of_ble_eq_true rfl, Nat.le_of_ble_eq_true rfl⟩) (cP_V hK hP hD [0, 1, 2, 3, 4, 5, 6] rfl rfl 0 rfl rfl) rfl rfl hl.1 rfl (lv_room (Nat.le_of_ble_eq_true rfl)) dX8_wear_14 ⟨Nat.zero_le _, Nat.zero_le _⟩) hP hD hS hA [0, 1, 2, 3, 4, 5, 6] rfl [(true, 0), (true, 1), (true, 2), (true, 3), (true, 4), (true, 5), (true, 6)] rfl rfl rfl (fun H locs hP hD hS => ?_)
    refine lv_aload_n hx hb dX8_wear_17 rfl (lv_at hl 0 rfl) ?_
    refine va_get (D := (dC, dI)) (ci := 8) (v := .ref m1) (C := RX8) (T := TX8) (N := 12) hx hb hts (fun w h9 => gb_mem (lay_X8 w h9)) hown hK.1 hP 0 rfl rfl 0 (by decide) (hts _ (gb_mem fl_X8_7)) (fun _ h9 => h9) rfl dX8_wear_18 ?_
    refine lv_iconst (v := 0) hx hb dX8_wear_21 (by decide) ?_
    obtain ⟨ni4, h⟩ := ifn h
    refine va_iald hx hb hK.1 hP 1 0 rfl rfl ni4 dX8_wear_22 ?_
    refine lv_istore_n (lv' := [(2, .int (state (0 : Int32).toNatClampNeg)), (0, .ref m0), (1, .int x1)]) hx hb dX8_wear_23 rfl hl (by decide) rfl (fun ls hl => ?_)
    refine lv_aload_n hx hb dX8_wear_24 rfl (lv_at hl 1 rfl) ?_
    refine va_get (D := (dC, dI)) (ci := 8) (v := .ref m1) (C := RX8) (T := TX8) (N := 12) hx hb hts (fun w h9 => gb_mem (lay_X8 w h9)) hown hK.1 hP 0 rfl rfl 0 (by decide) (hts _ (gb_mem fl_X8_7)) (fun _ h9 => h9) rfl dX8_wear_25 ?_
    refine lv_iconst (v := 0) hx hb dX8_wear_28 (by decide) ?_
    refine lv_iload_n hx hb dX8_wear_29 rfl (lv_at hl 2 rfl) ?_
    obtain ⟨ni5, h⟩ := ifn h
    refine va_iast hx hb hK.1 hP hD hS 1 0 rfl rfl ni5 dX8_wear_30 (fun H locs hP hD hS => ?_)
    have hP : va_P (dC, dI) vwCl (modelW cyI m0 m1 m2 m3 m4 m5 m6 (upd state (0 : Int32).toNatClampNeg x1) q2.1 q2.2 slots isSaved pad padLength opened pos letter first second) H := hP
    have hD : va_D A (modelW cyI m0 m1 m2 m3 m4 m5 m6 (upd state (0 : Int32).toNatClampNeg x1) q2.1 q2.2 slots isSaved pad padLength opened pos letter first second) := hD
    refine lv_iload_n hx hb dX8_wear_31 rfl (lv_at hl 0 rfl) ?_
    obtain rfl := Option.some.inj h
    exact e_i hx hb hr hlocks hP hS dX8_wear_32
  · have h := (if_pos c1).symm.trans h
    refine lv_bipush (v := (-2)) hx hb dX8_wear_10 (by decide) ?_
    obtain rfl := Option.some.inj h
    exact e_i hx hb hr hlocks hP hS dX8_wear_12
noncomputable def fX8_whyNoKey_b16 (state : Nat → Int32) (y1 : Int32) : Option (Int32) :=
  (if (1 : Int32) < 0 ∨ 844 ≤ (1 : Int32).toNatClampNeg then none else (if (state (1 : Int32).toNatClampNeg) = 20 then (some (-4)) else (if y1 = (-6) then (if y1 = (-6) then (some 0) else ((fX8_canClose state y1).bind fun q5 => (if q5 = 0 then (some (-5)) else (some 0)))) else (if (3 : Int32) < 0 ∨ 844 ≤ (3 : Int32).toNatClampNeg then none else (if (state (3 : Int32).toNatClampNeg) = 120 then (some (-4)) else (if y1 = (-6) then (some 0) else ((fX8_canClose state y1).bind fun q11 => (if q11 = 0 then (some (-5)) else (some 0)))))))))

noncomputable def fX8_whyNoKey (state : Nat → Int32) (x1 : Int32) : Option (Int32) :=
  (if x1 = (-6) then fX8_whyNoKey_b16 state x1 else ((fX8_isLiveKey state x1).bind fun q15 => (if q15 = 0 then (some (-1)) else fX8_whyNoKey_b16 state x1)))
set_option maxHeartbeats 1000000 in
set_option maxRecDepth 100000 in
theorem mX8_whyNoKey (l : Launch) (dC : Nat → ClassId) (dI : Nat → Nat → Nat) (cyI cyO : ClassId) (m0 m1 m2 m3 m4 m5 m6 : Nat) (state : Nat → Int32) (history : Nat → Int32) (recorded : Int32) (slots : Nat → Int32) (isSaved : Nat → Int32) (pad : Nat → Int32) (padLength : Int32) (opened : Nat → Int32) (pos : Int32) (letter : Int32) (first : Int32) (second : Int32) (x1 : Int32) (sz : Nat) (res : Int32) (h : fX8_whyNoKey state x1 = some res) : Met l yX8_whyNoKey (wsG yX8_whyNoKey cX8_whyNoKey 2 (some .int)) ({ frames := 3, cells := 0, slots := 0, locals := 64 }) (cP dC dI cyI cyO sz [.ref m0, .int x1] (modelW cyI m0 m1 m2 m3 m4 m5 m6 state history recorded slots isSaved pad padLength opened pos letter first second)) (cI dC dI res (modelW cyI m0 m1 m2 m3 m4 m5 m6 state history recorded slots isSaved pad padLength opened pos letter first second) (va_A (modelW cyI m0 m1 m2 m3 m4 m5 m6 state history recorded slots isSaved pad padLength opened pos letter first second) sz)) 0 0 (va_A (modelW cyI m0 m1 m2 m3 m4 m5 m6 state history recorded slots isSaved pad padLength opened pos letter first second) sz) := by
  refine Met.ofW (cc := cX8_whyNoKey) (maxL := 2) (ret := (some .int)) (by decide) rfl ?_
  intro p e s m args below meth c s₁ B hml hv
  obtain ⟨rfl, hsz, hP, hK, hD0⟩ := hv
  have hx := B.exec
  have hb := B.bytes
  have hr := B.returns
  have hts := atoms_spec (ws := wsG yX8_whyNoKey cX8_whyNoKey 2 (some .int)) B.pre
  have hown : s.vm.findClass RX8 = some m.cls := findClass_of_methodNamed B.named
  have hlocks := B.notSynchronized
  subst hsz
  have hD := hD0.self (sz := s.heap.size)
  generalize hAe : va_A (modelW cyI m0 m1 m2 m3 m4 m5 m6 state history recorded slots isSaved pad padLength opened pos letter first second) s.heap.size = A at hD ⊢
  have hA : ∀ q : Nat, s.heap.size ≤ q → A q := fun q h => by rw [← hAe]; exact Or.inr h
  have hS : va_S A s.heap s.heap [] := va_S.rf
  have kB16 : ∀ (state : Nat → Int32) (y1 : Int32), fX8_whyNoKey_b16 state y1 = some res → ∀ (H : Heap) (locs : List Loc), va_P (dC, dI) vwCl (modelW cyI m0 m1 m2 m3 m4 m5 m6 state history recorded slots isSaved pad padLength opened pos letter first second) H → va_D A (modelW cyI m0 m1 m2 m3 m4 m5 m6 state history recorded slots isSaved pad padLength opened pos letter first second) → va_S A s.heap H locs → ∀ ls : Array Slot, lv_has ls 2 [(0, .ref m0), (1, .int y1)] → W p l e (headSpec (wsG yX8_whyNoKey cX8_whyNoKey 2 (some .int)) ({ frames := 3, cells := 0, slots := 0, locals := 64 })).room s m (([.ref m0, .int x1] : List Value).toArray) below meth c H locs 0 0 (MQ below (cI dC dI res (modelW cyI m0 m1 m2 m3 m4 m5 m6 state history recorded slots isSaved pad padLength opened pos letter first second) A) ([.ref m0, .int x1] : List Value).toArray s 0 0 A) (F0 m 16 ls []) := by
    intro state y1 h H locs hP hD hS ls hl
    unfold fX8_whyNoKey_b16 at h
    refine lv_aload_n hx hb dX8_whyNoKey_16 rfl (lv_at hl 0 rfl) ?_
    refine va_get (D := (dC, dI)) (ci := 8) (v := .ref m1) (C := RX8) (T := TX8) (N := 12) hx hb hts (fun w h9 => gb_mem (lay_X8 w h9)) hown hK.1 hP 0 rfl rfl 0 (by decide) (hts _ (gb_mem fl_X8_7)) (fun _ h9 => h9) rfl dX8_whyNoKey_17 ?_
    refine lv_iconst (v := 1) hx hb dX8_whyNoKey_20 (by decide) ?_
    obtain ⟨ni1, h⟩ := ifn h
    refine va_iald hx hb hK.1 hP 1 0 rfl rfl ni1 dX8_whyNoKey_21 ?_
    refine lv_bipush (v := 20) hx hb dX8_whyNoKey_22 (by decide) ?_
    refine lv_icmp_eq (tgt := 44) hx hb dX8_whyNoKey_24 (by decide) (fun c2 => ?_) (fun c2 => ?_)
    · have h := (if_pos c2).symm.trans h
      refine lv_bipush (v := (-4)) hx hb dX8_whyNoKey_44 (by decide) ?_
      obtain rfl := Option.some.inj h
      exact e_i hx hb hr hlocks hP hS dX8_whyNoKey_46
    · have h := (if_neg c2).symm.trans h
      refine lv_iload_n hx hb dX8_whyNoKey_27 rfl (lv_at hl 1 rfl) ?_
      refine lv_bipush (v := (-6)) hx hb dX8_whyNoKey_28 (by decide) ?_
      refine lv_icmp_eq (tgt := 47) hx hb dX8_whyNoKey_30 (by decide) (fun c3 => ?_) (fun c3 => ?_)
      · have h := (if_pos c3).symm.trans h
        refine lv_iload_n hx hb dX8_whyNoKey_47 rfl (lv_at hl 1 rfl) ?_
        refine lv_bipush (v := (-6)) hx hb dX8_whyNoKey_48 (by decide) ?_
        refine lv_icmp_eq (tgt := 66) hx hb dX8_whyNoKey_50 (by decide) (fun c4 => ?_) (fun c4 => ?_)
        · have h := (if_pos c4).symm.trans h
          refine lv_iconst (v := 0) hx hb dX8_whyNoKey_66 (by decide) ?_
          obtain rfl := Option.some.inj h
          exact e_i hx hb hr hlocks hP hS dX8_whyNoKey_67
        · have h := (if_neg c4).symm.trans h
          refine lv_aload_n hx hb dX8_whyNoKey_53 rfl (lv_at hl 0 rfl) ?_
          refine lv_iload_n hx hb dX8_whyNoKey_54 rfl (lv_at hl 1 rfl) ?_
          obtain ⟨q5, e6, h⟩ := ob h
          refine fr_ir (M := (modelW cyI m0 m1 m2 m3 m4 m5 m6 state history recorded slots isSaved pad padLength opened pos letter first second)) (va_runV (As := [.int y1]) (rest := []) ⟨hx, hb, hml, hown, hts⟩ (mX8_canClose l dC dI cyI cyO m0 m1 m2 m3 m4 m5 m6 state history recorded slots isSaved pad padLength opened pos letter first second y1 _ q5 e6) (cwV 1 hts (gV ml_X8_108 im_X8_canClose se_X8_canClose in_X8 co_X8_canClose) rfl rfl rfl (by decide +kernel) ⟨Nat.le_of_ble_eq_true rfl, Nat.le_of_ble_eq_true rfl⟩) (cP_V hK hP hD [0, 1, 2, 3, 4, 5, 6] rfl rfl 0 rfl rfl) rfl rfl hl.1 rfl (lv_room (Nat.le_of_ble_eq_true rfl)) dX8_whyNoKey_55 ⟨Nat.zero_le _, Nat.zero_le _⟩) hP hD hS hA [0, 1, 2, 3, 4, 5, 6] rfl (fun H locs hP hS => ?_)
          refine lv_if_ne (tgt := 66) hx hb dX8_whyNoKey_58 (by decide) (fun c7 => ?_) (fun c7 => ?_)
          · have h := (if_neg c7).symm.trans h
            refine lv_iconst (v := 0) hx hb dX8_whyNoKey_66 (by decide) ?_
            obtain rfl := Option.some.inj h
            exact e_i hx hb hr hlocks hP hS dX8_whyNoKey_67
          · have h := (if_pos c7).symm.trans h
            refine lv_bipush (v := (-5)) hx hb dX8_whyNoKey_61 (by decide) ?_
            refine lv_goto (tgt := 67) hx hb dX8_whyNoKey_63 (by decide) ?_
            obtain rfl := Option.some.inj h
            exact e_i hx hb hr hlocks hP hS dX8_whyNoKey_67
      · have h := (if_neg c3).symm.trans h
        refine lv_aload_n hx hb dX8_whyNoKey_33 rfl (lv_at hl 0 rfl) ?_
        refine va_get (D := (dC, dI)) (ci := 8) (v := .ref m1) (C := RX8) (T := TX8) (N := 12) hx hb hts (fun w h9 => gb_mem (lay_X8 w h9)) hown hK.1 hP 0 rfl rfl 0 (by decide) (hts _ (gb_mem fl_X8_7)) (fun _ h9 => h9) rfl dX8_whyNoKey_34 ?_
        refine lv_iconst (v := 3) hx hb dX8_whyNoKey_37 (by decide) ?_
        obtain ⟨ni8, h⟩ := ifn h
        refine va_iald hx hb hK.1 hP 1 0 rfl rfl ni8 dX8_whyNoKey_38 ?_
        refine lv_bipush (v := 120) hx hb dX8_whyNoKey_39 (by decide) ?_
        refine lv_icmp_ne (tgt := 47) hx hb dX8_whyNoKey_41 (by decide) (fun c9 => ?_) (fun c9 => ?_)
        · have h := (if_neg c9).symm.trans h
          refine lv_iload_n hx hb dX8_whyNoKey_47 rfl (lv_at hl 1 rfl) ?_
          refine lv_bipush (v := (-6)) hx hb dX8_whyNoKey_48 (by decide) ?_
          refine lv_icmp_eq (tgt := 66) hx hb dX8_whyNoKey_50 (by decide) (fun c10 => ?_) (fun c10 => ?_)
          · have h := (if_pos c10).symm.trans h
            refine lv_iconst (v := 0) hx hb dX8_whyNoKey_66 (by decide) ?_
            obtain rfl := Option.some.inj h
            exact e_i hx hb hr hlocks hP hS dX8_whyNoKey_67
          · have h := (if_neg c10).symm.trans h
            refine lv_aload_n hx hb dX8_whyNoKey_53 rfl (lv_at hl 0 rfl) ?_
            refine lv_iload_n hx hb dX8_whyNoKey_54 rfl (lv_at hl 1 rfl) ?_
            obtain ⟨q11, e12, h⟩ := ob h
            refine fr_ir (M := (modelW cyI m0 m1 m2 m3 m4 m5 m6 state history recorded slots isSaved pad padLength opened pos letter first second)) (va_runV (As := [.int y1]) (rest := []) ⟨hx, hb, hml, hown, hts⟩ (mX8_canClose l dC dI cyI cyO m0 m1 m2 m3 m4 m5 m6 state history recorded slots isSaved pad padLength opened pos letter first second y1 _ q11 e12) (cwV 1 hts (gV ml_X8_108 im_X8_canClose se_X8_canClose in_X8 co_X8_canClose) rfl rfl rfl (by decide +kernel) ⟨Nat.le_of_ble_eq_true rfl, Nat.le_of_ble_eq_true rfl⟩) (cP_V hK hP hD [0, 1, 2, 3, 4, 5, 6] rfl rfl 0 rfl rfl) rfl rfl hl.1 rfl (lv_room (Nat.le_of_ble_eq_true rfl)) dX8_whyNoKey_55 ⟨Nat.zero_le _, Nat.zero_le _⟩) hP hD hS hA [0, 1, 2, 3, 4, 5, 6] rfl (fun H locs hP hS => ?_)
            refine lv_if_ne (tgt := 66) hx hb dX8_whyNoKey_58 (by decide) (fun c13 => ?_) (fun c13 => ?_)
            · have h := (if_neg c13).symm.trans h
              refine lv_iconst (v := 0) hx hb dX8_whyNoKey_66 (by decide) ?_
              obtain rfl := Option.some.inj h
              exact e_i hx hb hr hlocks hP hS dX8_whyNoKey_67
            · have h := (if_pos c13).symm.trans h
              refine lv_bipush (v := (-5)) hx hb dX8_whyNoKey_61 (by decide) ?_
              refine lv_goto (tgt := 67) hx hb dX8_whyNoKey_63 (by decide) ?_
              obtain rfl := Option.some.inj h
              exact e_i hx hb hr hlocks hP hS dX8_whyNoKey_67
        · have h := (if_pos c9).symm.trans h
          refine lv_bipush (v := (-4)) hx hb dX8_whyNoKey_44 (by decide) ?_
          obtain rfl := Option.some.inj h
          exact e_i hx hb hr hlocks hP hS dX8_whyNoKey_46
  have hl := lv_entry ([.ref m0, .int x1]) (n := 2) (Nat.le_of_ble_eq_true rfl)
  rw [lg_entry_eq]
  generalize (lg_sl ([.ref m0, .int x1]) ++ List.replicate (2 - (lg_sl ([.ref m0, .int x1])).length) Slot.unset).toArray = ls at hl ⊢
  have hl : lv_has ls 2 [(0, .ref m0), (1, .int x1)] := hl
  unfold fX8_whyNoKey at h
  refine lv_iload_n hx hb dX8_whyNoKey_0 rfl (lv_at hl 1 rfl) ?_
  refine lv_bipush (v := (-6)) hx hb dX8_whyNoKey_1 (by decide) ?_
  refine lv_icmp_eq (tgt := 16) hx hb dX8_whyNoKey_3 (by decide) (fun c14 => ?_) (fun c14 => ?_)
  · have h := (if_pos c14).symm.trans h
    exact kB16 state x1 h _ _ hP hD hS ls (lv_sub hl [0, 1] rfl)
  · have h := (if_neg c14).symm.trans h
    refine lv_aload_n hx hb dX8_whyNoKey_6 rfl (lv_at hl 0 rfl) ?_
    refine lv_iload_n hx hb dX8_whyNoKey_7 rfl (lv_at hl 1 rfl) ?_
    obtain ⟨q15, e16, h⟩ := ob h
    refine fr_ir (M := (modelW cyI m0 m1 m2 m3 m4 m5 m6 state history recorded slots isSaved pad padLength opened pos letter first second)) (va_runV (As := [.int x1]) (rest := []) ⟨hx, hb, hml, hown, hts⟩ (mX8_isLiveKey l dC dI cyI cyO m0 m1 m2 m3 m4 m5 m6 state history recorded slots isSaved pad padLength opened pos letter first second x1 _ q15 e16) (cwV 1 hts (gV ml_X8_105 im_X8_isLiveKey se_X8_isLiveKey in_X8 co_X8_isLiveKey) rfl rfl rfl (by decide +kernel) ⟨Nat.le_of_ble_eq_true rfl, Nat.le_of_ble_eq_true rfl⟩) (cP_V hK hP hD [0, 1, 2, 3, 4, 5, 6] rfl rfl 0 rfl rfl) rfl rfl hl.1 rfl (lv_room (Nat.le_of_ble_eq_true rfl)) dX8_whyNoKey_8 ⟨Nat.zero_le _, Nat.zero_le _⟩) hP hD hS hA [0, 1, 2, 3, 4, 5, 6] rfl (fun H locs hP hS => ?_)
    refine lv_if_ne (tgt := 16) hx hb dX8_whyNoKey_11 (by decide) (fun c17 => ?_) (fun c17 => ?_)
    · have h := (if_neg c17).symm.trans h
      exact kB16 state x1 h _ _ hP hD hS ls (lv_sub hl [0, 1] rfl)
    · have h := (if_pos c17).symm.trans h
      refine lv_iconst (v := (-1)) hx hb dX8_whyNoKey_14 (by decide) ?_
      obtain rfl := Option.some.inj h
      exact e_i hx hb hr hlocks hP hS dX8_whyNoKey_15

noncomputable def fX8_makeKey (state : Nat → Int32) (x1 : Int32) : Option (Int32 × (Nat → Int32)) :=
  (if (1 : Int32) < 0 ∨ 844 ≤ (1 : Int32).toNatClampNeg then none else ((fX8_setKey state (state (1 : Int32).toNatClampNeg) 0 x1).bind fun q2 => ((fX8_setKey q2 (state (1 : Int32).toNatClampNeg) 1 1).bind fun q4 => ((fX8_setKey q4 (state (1 : Int32).toNatClampNeg) 2 0).bind fun q6 => ((fX8_setKey q6 (state (1 : Int32).toNatClampNeg) 3 0).bind fun q8 => (if (1 : Int32) < 0 ∨ 844 ≤ (1 : Int32).toNatClampNeg then none else (if (1 : Int32) < 0 ∨ 844 ≤ (1 : Int32).toNatClampNeg then none else (if x1 = (-6) then (some ((state (1 : Int32).toNatClampNeg), (upd q8 (1 : Int32).toNatClampNeg ((q8 (1 : Int32).toNatClampNeg) + 1)))) else ((fX8_wrapKey (upd q8 (1 : Int32).toNatClampNeg ((q8 (1 : Int32).toNatClampNeg) + 1)) (state (1 : Int32).toNatClampNeg)).bind fun q13 => (some ((state (1 : Int32).toNatClampNeg), q13)))))))))))
set_option maxHeartbeats 1000000 in
set_option maxRecDepth 100000 in
theorem mX8_makeKey (l : Launch) (dC : Nat → ClassId) (dI : Nat → Nat → Nat) (cyI cyO : ClassId) (m0 m1 m2 m3 m4 m5 m6 : Nat) (state : Nat → Int32) (history : Nat → Int32) (recorded : Int32) (slots : Nat → Int32) (isSaved : Nat → Int32) (pad : Nat → Int32) (padLength : Int32) (opened : Nat → Int32) (pos : Int32) (letter : Int32) (first : Int32) (second : Int32) (x1 : Int32) (sz : Nat) (res : Int32 × (Nat → Int32)) (h : fX8_makeKey state x1 = some res) : Met l yX8_makeKey (wsG yX8_makeKey cX8_makeKey 3 (some .int)) ({ frames := 3, cells := 0, slots := 0, locals := 68 }) (cP dC dI cyI cyO sz [.ref m0, .int x1] (modelW cyI m0 m1 m2 m3 m4 m5 m6 state history recorded slots isSaved pad padLength opened pos letter first second)) (cI dC dI res.1 (modelW cyI m0 m1 m2 m3 m4 m5 m6 res.2 history recorded slots isSaved pad padLength opened pos letter first second) (va_A (modelW cyI m0 m1 m2 m3 m4 m5 m6 state history recorded slots isSaved pad padLength opened pos letter first second) sz)) 0 0 (va_A (modelW cyI m0 m1 m2 m3 m4 m5 m6 state history recorded slots isSaved pad padLength opened pos letter first second) sz) := by
  refine Met.ofW (cc := cX8_makeKey) (maxL := 3) (ret := (some .int)) (by decide) rfl ?_
  intro p e s m args below meth c s₁ B hml hv
  obtain ⟨rfl, hsz, hP, hK, hD0⟩ := hv
  have hx := B.exec
  have hb := B.bytes
  have hr := B.returns
  have hts := atoms_spec (ws := wsG yX8_makeKey cX8_makeKey 3 (some .int)) B.pre
  have hown : s.vm.findClass RX8 = some m.cls := findClass_of_methodNamed B.named
  have hlocks := B.notSynchronized
  subst hsz
  have hD := hD0.self (sz := s.heap.size)
  generalize hAe : va_A (modelW cyI m0 m1 m2 m3 m4 m5 m6 state history recorded slots isSaved pad padLength opened pos letter first second) s.heap.size = A at hD ⊢
  have hA : ∀ q : Nat, s.heap.size ≤ q → A q := fun q h => by rw [← hAe]; exact Or.inr h
  have hS : va_S A s.heap s.heap [] := va_S.rf
  have hl := lv_entry ([.ref m0, .int x1]) (n := 3) (Nat.le_of_ble_eq_true rfl)
  rw [lg_entry_eq]
  generalize (lg_sl ([.ref m0, .int x1]) ++ List.replicate (3 - (lg_sl ([.ref m0, .int x1])).length) Slot.unset).toArray = ls at hl ⊢
  have hl : lv_has ls 3 [(0, .ref m0), (1, .int x1)] := hl
  unfold fX8_makeKey at h
  refine lv_aload_n hx hb dX8_makeKey_0 rfl (lv_at hl 0 rfl) ?_
  refine va_get (D := (dC, dI)) (ci := 8) (v := .ref m1) (C := RX8) (T := TX8) (N := 12) hx hb hts (fun w h9 => gb_mem (lay_X8 w h9)) hown hK.1 hP 0 rfl rfl 0 (by decide) (hts _ (gb_mem fl_X8_7)) (fun _ h9 => h9) rfl dX8_makeKey_1 ?_
  refine lv_iconst (v := 1) hx hb dX8_makeKey_4 (by decide) ?_
  obtain ⟨ni1, h⟩ := ifn h
  refine va_iald hx hb hK.1 hP 1 0 rfl rfl ni1 dX8_makeKey_5 ?_
  refine lv_istore_n (lv' := [(2, .int (state (1 : Int32).toNatClampNeg)), (0, .ref m0), (1, .int x1)]) hx hb dX8_makeKey_6 rfl hl (by decide) rfl (fun ls hl => ?_)
  refine lv_aload_n hx hb dX8_makeKey_7 rfl (lv_at hl 1 rfl) ?_
  refine lv_iload_n hx hb dX8_makeKey_8 rfl (lv_at hl 0 rfl) ?_
  refine lv_iconst (v := 0) hx hb dX8_makeKey_9 (by decide) ?_
  refine lv_iload_n hx hb dX8_makeKey_10 rfl (lv_at hl 2 rfl) ?_
  obtain ⟨q2, e3, h⟩ := ob h
  refine fr_v (M := (modelW cyI m0 m1 m2 m3 m4 m5 m6 state history recorded slots isSaved pad padLength opened pos letter first second)) (M' := (modelW cyI m0 m1 m2 m3 m4 m5 m6 q2 history recorded slots isSaved pad padLength opened pos letter first second)) (L' := (modelW cyI m0 m1 m2 m3 m4 m5 m6 q2 history recorded slots isSaved pad padLength opened pos letter first second)) (va_runV (As := [.int (state (1 : Int32).toNatClampNeg), .int 0, .int x1]) (rest := []) ⟨hx, hb, hml, hown, hts⟩ (mX8_setKey l dC dI cyI cyO m0 m1 m2 m3 m4 m5 m6 state history recorded slots isSaved pad padLength opened pos letter first second (state (1 : Int32).toNatClampNeg) 0 x1 _ q2 e3) (cwV 3 hts (gV ml_X8_68 im_X8_setKey se_X8_setKey in_X8 co_X8_setKey) rfl rfl rfl (by decide +kernel) ⟨Nat.le_of_ble_eq_true rfl, Nat.le_of_ble_eq_true rfl⟩) (cP_V hK hP hD [0, 1, 2, 3, 4, 5, 6] rfl rfl 0 rfl rfl) rfl rfl hl.1 rfl (lv_room (Nat.le_of_ble_eq_true rfl)) dX8_makeKey_11 ⟨Nat.zero_le _, Nat.zero_le _⟩) hP hD hS hA [0, 1, 2, 3, 4, 5, 6] rfl [(true, 0), (true, 1), (true, 2), (true, 3), (true, 4), (true, 5), (true, 6)] rfl rfl rfl (fun H locs hP hD hS => ?_)
  refine lv_aload_n hx hb dX8_makeKey_14 rfl (lv_at hl 1 rfl) ?_
  refine lv_iload_n hx hb dX8_makeKey_15 rfl (lv_at hl 0 rfl) ?_
  refine lv_iconst (v := 1) hx hb dX8_makeKey_16 (by decide) ?_
  refine lv_iconst (v := 1) hx hb dX8_makeKey_17 (by decide) ?_
  obtain ⟨q4, e5, h⟩ := ob h
  refine fr_v (M := (modelW cyI m0 m1 m2 m3 m4 m5 m6 q2 history recorded slots isSaved pad padLength opened pos letter first second)) (M' := (modelW cyI m0 m1 m2 m3 m4 m5 m6 q4 history recorded slots isSaved pad padLength opened pos letter first second)) (L' := (modelW cyI m0 m1 m2 m3 m4 m5 m6 q4 history recorded slots isSaved pad padLength opened pos letter first second)) (va_runV (As := [.int (state (1 : Int32).toNatClampNeg), .int 1, .int 1]) (rest := []) ⟨hx, hb, hml, hown, hts⟩ (mX8_setKey l dC dI cyI cyO m0 m1 m2 m3 m4 m5 m6 q2 history recorded slots isSaved pad padLength opened pos letter first second (state (1 : Int32).toNatClampNeg) 1 1 _ q4 e5) (cwV 3 hts (gV ml_X8_68 im_X8_setKey se_X8_setKey in_X8 co_X8_setKey) rfl rfl rfl (by decide +kernel) ⟨Nat.le_of_ble_eq_true rfl, Nat.le_of_ble_eq_true rfl⟩) (cP_V hK hP hD [0, 1, 2, 3, 4, 5, 6] rfl rfl 0 rfl rfl) rfl rfl hl.1 rfl (lv_room (Nat.le_of_ble_eq_true rfl)) dX8_makeKey_18 ⟨Nat.zero_le _, Nat.zero_le _⟩) hP hD hS hA [0, 1, 2, 3, 4, 5, 6] rfl [(true, 0), (true, 1), (true, 2), (true, 3), (true, 4), (true, 5), (true, 6)] rfl rfl rfl (fun H locs hP hD hS => ?_)
  refine lv_aload_n hx hb dX8_makeKey_21 rfl (lv_at hl 1 rfl) ?_
  refine lv_iload_n hx hb dX8_makeKey_22 rfl (lv_at hl 0 rfl) ?_
  refine lv_iconst (v := 2) hx hb dX8_makeKey_23 (by decide) ?_
  refine lv_iconst (v := 0) hx hb dX8_makeKey_24 (by decide) ?_
  obtain ⟨q6, e7, h⟩ := ob h
  refine fr_v (M := (modelW cyI m0 m1 m2 m3 m4 m5 m6 q4 history recorded slots isSaved pad padLength opened pos letter first second)) (M' := (modelW cyI m0 m1 m2 m3 m4 m5 m6 q6 history recorded slots isSaved pad padLength opened pos letter first second)) (L' := (modelW cyI m0 m1 m2 m3 m4 m5 m6 q6 history recorded slots isSaved pad padLength opened pos letter first second)) (va_runV (As := [.int (state (1 : Int32).toNatClampNeg), .int 2, .int 0]) (rest := []) ⟨hx, hb, hml, hown, hts⟩ (mX8_setKey l dC dI cyI cyO m0 m1 m2 m3 m4 m5 m6 q4 history recorded slots isSaved pad padLength opened pos letter first second (state (1 : Int32).toNatClampNeg) 2 0 _ q6 e7) (cwV 3 hts (gV ml_X8_68 im_X8_setKey se_X8_setKey in_X8 co_X8_setKey) rfl rfl rfl (by decide +kernel) ⟨Nat.le_of_ble_eq_true rfl, Nat.le_of_ble_eq_true rfl⟩) (cP_V hK hP hD [0, 1, 2, 3, 4, 5, 6] rfl rfl 0 rfl rfl) rfl rfl hl.1 rfl (lv_room (Nat.le_of_ble_eq_true rfl)) dX8_makeKey_25 ⟨Nat.zero_le _, Nat.zero_le _⟩) hP hD hS hA [0, 1, 2, 3, 4, 5, 6] rfl [(true, 0), (true, 1), (true, 2), (true, 3), (true, 4), (true, 5), (true, 6)] rfl rfl rfl (fun H locs hP hD hS => ?_)
  refine lv_aload_n hx hb dX8_makeKey_28 rfl (lv_at hl 1 rfl) ?_
  refine lv_iload_n hx hb dX8_makeKey_29 rfl (lv_at hl 0 rfl) ?_
  refine lv_iconst (v := 3) hx hb dX8_makeKey_30 (by decide) ?_
  refine lv_iconst (v := 0) hx hb dX8_makeKey_31 (by decide) ?_
  obtain ⟨q8, e9, h⟩ := ob h
  refine fr_v (M := (modelW cyI m0 m1 m2 m3 m4 m5 m6 q6 history recorded slots isSaved pad padLength opened pos letter first second)) (M' := (modelW cyI m0 m1 m2 m3 m4 m5 m6 q8 history recorded slots isSaved pad padLength opened pos letter first second)) (L' := (modelW cyI m0 m1 m2 m3 m4 m5 m6 q8 history recorded slots isSaved pad padLength opened pos letter first second)) (va_runV (As := [.int (state (1 : Int32).toNatClampNeg), .int 3, .int 0]) (rest := []) ⟨hx, hb, hml, hown, hts⟩ (mX8_setKey l dC dI cyI cyO m0 m1 m2 m3 m4 m5 m6 q6 history recorded slots isSaved pad padLength opened pos letter first second (state (1 : Int32).toNatClampNeg) 3 0 _ q8 e9) (cwV 3 hts (gV ml_X8_68 im_X8_setKey se_X8_setKey in_X8 co_X8_setKey) rfl rfl rfl (by decide +kernel) ⟨Nat.le_of_ble_eq_true rfl, Nat.le_of_ble_eq_true rfl⟩) (cP_V hK hP hD [0, 1, 2, 3, 4, 5, 6] rfl rfl 0 rfl rfl) rfl rfl hl.1 rfl (lv_room (Nat.le_of_ble_eq_true rfl)) dX8_makeKey_32 ⟨Nat.zero_le _, Nat.zero_le _⟩) hP hD hS hA [0, 1, 2, 3, 4, 5, 6] rfl [(true, 0), (true, 1), (true, 2), (true, 3), (true, 4), (true, 5), (true, 6)] rfl rfl rfl (fun H locs hP hD hS => ?_)
  refine lv_aload_n hx hb dX8_makeKey_35 rfl (lv_at hl 1 rfl) ?_
  refine va_get (D := (dC, dI)) (ci := 8) (v := .ref m1) (C := RX8) (T := TX8) (N := 12) hx hb hts (fun w h9 => gb_mem (lay_X8 w h9)) hown hK.1 hP 0 rfl rfl 0 (by decide) (hts _ (gb_mem fl_X8_7)) (fun _ h9 => h9) rfl dX8_makeKey_36 ?_
  refine lv_iconst (v := 1) hx hb dX8_makeKey_39 (by decide) ?_
  refine lv_dup2_11 hx hb dX8_makeKey_40 rfl rfl ?_
  obtain ⟨ni10, h⟩ := ifn h
  refine va_iald hx hb hK.1 hP 1 0 rfl rfl ni10 dX8_makeKey_41 ?_
  refine lv_iconst (v := 1) hx hb dX8_makeKey_42 (by decide) ?_
  refine lv_iadd hx hb dX8_makeKey_43 ?_
  obtain ⟨ni11, h⟩ := ifn h
  refine va_iast hx hb hK.1 hP hD hS 1 0 rfl rfl ni11 dX8_makeKey_44 (fun H locs hP hD hS => ?_)
  have hP : va_P (dC, dI) vwCl (modelW cyI m0 m1 m2 m3 m4 m5 m6 (upd q8 (1 : Int32).toNatClampNeg ((q8 (1 : Int32).toNatClampNeg) + 1)) history recorded slots isSaved pad padLength opened pos letter first second) H := hP
  have hD : va_D A (modelW cyI m0 m1 m2 m3 m4 m5 m6 (upd q8 (1 : Int32).toNatClampNeg ((q8 (1 : Int32).toNatClampNeg) + 1)) history recorded slots isSaved pad padLength opened pos letter first second) := hD
  refine lv_iload_n hx hb dX8_makeKey_45 rfl (lv_at hl 2 rfl) ?_
  refine lv_bipush (v := (-6)) hx hb dX8_makeKey_46 (by decide) ?_
  refine lv_icmp_eq (tgt := 56) hx hb dX8_makeKey_48 (by decide) (fun c12 => ?_) (fun c12 => ?_)
  · have h := (if_pos c12).symm.trans h
    refine lv_iload_n hx hb dX8_makeKey_56 rfl (lv_at hl 0 rfl) ?_
    obtain rfl := Option.some.inj h
    exact e_i hx hb hr hlocks hP hS dX8_makeKey_57
  · have h := (if_neg c12).symm.trans h
    refine lv_aload_n hx hb dX8_makeKey_51 rfl (lv_at hl 1 rfl) ?_
    refine lv_iload_n hx hb dX8_makeKey_52 rfl (lv_at hl 0 rfl) ?_
    obtain ⟨q13, e14, h⟩ := ob h
    refine fr_v (M := (modelW cyI m0 m1 m2 m3 m4 m5 m6 (upd q8 (1 : Int32).toNatClampNeg ((q8 (1 : Int32).toNatClampNeg) + 1)) history recorded slots isSaved pad padLength opened pos letter first second)) (M' := (modelW cyI m0 m1 m2 m3 m4 m5 m6 q13 history recorded slots isSaved pad padLength opened pos letter first second)) (L' := (modelW cyI m0 m1 m2 m3 m4 m5 m6 q13 history recorded slots isSaved pad padLength opened pos letter first second)) (va_runV (As := [.int (state (1 : Int32).toNatClampNeg)]) (rest := []) ⟨hx, hb, hml, hown, hts⟩ (mX8_wrapKey l dC dI cyI cyO m0 m1 m2 m3 m4 m5 m6 (upd q8 (1 : Int32).toNatClampNeg ((q8 (1 : Int32).toNatClampNeg) + 1)) history recorded slots isSaved pad padLength opened pos letter first second (state (1 : Int32).toNatClampNeg) _ q13 e14) (cwV 1 hts (gV ml_X8_74 im_X8_wrapKey se_X8_wrapKey in_X8 co_X8_wrapKey) rfl rfl rfl (by decide +kernel) ⟨Nat.le_of_ble_eq_true rfl, Nat.le_of_ble_eq_true rfl⟩) (cP_V hK hP hD [0, 1, 2, 3, 4, 5, 6] rfl rfl 0 rfl rfl) rfl rfl hl.1 rfl (lv_room (Nat.le_of_ble_eq_true rfl)) dX8_makeKey_53 ⟨Nat.zero_le _, Nat.zero_le _⟩) hP hD hS hA [0, 1, 2, 3, 4, 5, 6] rfl [(true, 0), (true, 1), (true, 2), (true, 3), (true, 4), (true, 5), (true, 6)] rfl rfl rfl (fun H locs hP hD hS => ?_)
    refine lv_iload_n hx hb dX8_makeKey_56 rfl (lv_at hl 0 rfl) ?_
    obtain rfl := Option.some.inj h
    exact e_i hx hb hr hlocks hP hS dX8_makeKey_57

noncomputable def fX8_key (state : Nat → Int32) (history : Nat → Int32) (recorded : Int32) (x1 : Int32) : Option (Int32 × (Nat → Int32) × (Nat → Int32) × Int32) :=
  ((fX8_whyNoKey state x1).bind fun q1 => (if 0 ≤ q1 then ((fX8_record state history recorded).bind fun q4 => ((fX8_makeKey state x1).bind fun q6 => (some (q6.1, q6.2, q4.1, q4.2)))) else (some (q1, state, history, recorded))))
set_option maxHeartbeats 1000000 in
set_option maxRecDepth 100000 in
theorem mX8_key (l : Launch) (dC : Nat → ClassId) (dI : Nat → Nat → Nat) (cyI cyO : ClassId) (m0 m1 m2 m3 m4 m5 m6 : Nat) (state : Nat → Int32) (history : Nat → Int32) (recorded : Int32) (slots : Nat → Int32) (isSaved : Nat → Int32) (pad : Nat → Int32) (padLength : Int32) (opened : Nat → Int32) (pos : Int32) (letter : Int32) (first : Int32) (second : Int32) (x1 : Int32) (sz : Nat) (res : Int32 × (Nat → Int32) × (Nat → Int32) × Int32) (h : fX8_key state history recorded x1 = some res) : Met l yX8_key (wsG yX8_key cX8_key 3 (some .int)) ({ frames := 4, cells := 0, slots := 0, locals := 90 }) (cP dC dI cyI cyO sz [.ref m0, .int x1] (modelW cyI m0 m1 m2 m3 m4 m5 m6 state history recorded slots isSaved pad padLength opened pos letter first second)) (cI dC dI res.1 (modelW cyI m0 m1 m2 m3 m4 m5 m6 res.2.1 res.2.2.1 res.2.2.2 slots isSaved pad padLength opened pos letter first second) (va_A (modelW cyI m0 m1 m2 m3 m4 m5 m6 state history recorded slots isSaved pad padLength opened pos letter first second) sz)) 0 0 (va_A (modelW cyI m0 m1 m2 m3 m4 m5 m6 state history recorded slots isSaved pad padLength opened pos letter first second) sz) := by
  refine Met.ofW (cc := cX8_key) (maxL := 3) (ret := (some .int)) (by decide) rfl ?_
  intro p e s m args below meth c s₁ B hml hv
  obtain ⟨rfl, hsz, hP, hK, hD0⟩ := hv
  have hx := B.exec
  have hb := B.bytes
  have hr := B.returns
  have hts := atoms_spec (ws := wsG yX8_key cX8_key 3 (some .int)) B.pre
  have hown : s.vm.findClass RX8 = some m.cls := findClass_of_methodNamed B.named
  have hlocks := B.notSynchronized
  subst hsz
  have hD := hD0.self (sz := s.heap.size)
  generalize hAe : va_A (modelW cyI m0 m1 m2 m3 m4 m5 m6 state history recorded slots isSaved pad padLength opened pos letter first second) s.heap.size = A at hD ⊢
  have hA : ∀ q : Nat, s.heap.size ≤ q → A q := fun q h => by rw [← hAe]; exact Or.inr h
  have hS : va_S A s.heap s.heap [] := va_S.rf
  have hl := lv_entry ([.ref m0, .int x1]) (n := 3) (Nat.le_of_ble_eq_true rfl)
  rw [lg_entry_eq]
  generalize (lg_sl ([.ref m0, .int x1]) ++ List.replicate (3 - (lg_sl ([.ref m0, .int x1])).length) Slot.unset).toArray = ls at hl ⊢
  have hl : lv_has ls 3 [(0, .ref m0), (1, .int x1)] := hl
  unfold fX8_key at h
  refine lv_aload_n hx hb dX8_key_0 rfl (lv_at hl 0 rfl) ?_
  refine lv_iload_n hx hb dX8_key_1 rfl (lv_at hl 1 rfl) ?_
  obtain ⟨q1, e2, h⟩ := ob h
  refine fr_ir (M := (modelW cyI m0 m1 m2 m3 m4 m5 m6 state history recorded slots isSaved pad padLength opened pos letter first second)) (va_runV (As := [.int x1]) (rest := []) ⟨hx, hb, hml, hown, hts⟩ (mX8_whyNoKey l dC dI cyI cyO m0 m1 m2 m3 m4 m5 m6 state history recorded slots isSaved pad padLength opened pos letter first second x1 _ q1 e2) (cwV 1 hts (gV ml_X8_111 im_X8_whyNoKey se_X8_whyNoKey in_X8 co_X8_whyNoKey) rfl rfl rfl (by decide +kernel) ⟨Nat.le_of_ble_eq_true rfl, Nat.le_of_ble_eq_true rfl⟩) (cP_V hK hP hD [0, 1, 2, 3, 4, 5, 6] rfl rfl 0 rfl rfl) rfl rfl hl.1 rfl (lv_room (Nat.le_of_ble_eq_true rfl)) dX8_key_2 ⟨Nat.zero_le _, Nat.zero_le _⟩) hP hD hS hA [0, 1, 2, 3, 4, 5, 6] rfl (fun H locs hP hS => ?_)
  refine lv_istore_n (lv' := [(2, .int q1), (0, .ref m0), (1, .int x1)]) hx hb dX8_key_5 rfl hl (by decide) rfl (fun ls hl => ?_)
  refine lv_iload_n hx hb dX8_key_6 rfl (lv_at hl 0 rfl) ?_
  refine lv_if_ge (tgt := 12) hx hb dX8_key_7 (by decide) (fun c3 => ?_) (fun c3 => ?_)
  · have h := (if_pos c3).symm.trans h
    refine lv_aload_n hx hb dX8_key_12 rfl (lv_at hl 1 rfl) ?_
    obtain ⟨q4, e5, h⟩ := ob h
    refine fr_v (M := (modelW cyI m0 m1 m2 m3 m4 m5 m6 state history recorded slots isSaved pad padLength opened pos letter first second)) (M' := (modelW cyI m0 m1 m2 m3 m4 m5 m6 state q4.1 q4.2 slots isSaved pad padLength opened pos letter first second)) (L' := (modelW cyI m0 m1 m2 m3 m4 m5 m6 state q4.1 q4.2 slots isSaved pad padLength opened pos letter first second)) (va_runV (As := []) (rest := []) ⟨hx, hb, hml, hown, hts⟩ (mX8_record l dC dI cyI cyO m0 m1 m2 m3 m4 m5 m6 state history recorded slots isSaved pad padLength opened pos letter first second _ q4 e5) (cwV 0 hts (gV ml_X8_102 im_X8_record se_X8_record in_X8 co_X8_record) rfl rfl rfl (by decide +kernel) ⟨Nat.le_of_ble_eq_true rfl, Nat.le_of_ble_eq_true rfl⟩) (cP_V hK hP hD [0, 1, 2, 3, 4, 5, 6] rfl rfl 0 rfl rfl) rfl rfl hl.1 rfl (lv_room (Nat.le_of_ble_eq_true rfl)) dX8_key_13 ⟨Nat.zero_le _, Nat.zero_le _⟩) hP hD hS hA [0, 1, 2, 3, 4, 5, 6] rfl [(true, 0), (true, 1), (true, 2), (true, 3), (true, 4), (true, 5), (true, 6)] rfl rfl rfl (fun H locs hP hD hS => ?_)
    refine lv_aload_n hx hb dX8_key_16 rfl (lv_at hl 1 rfl) ?_
    refine lv_iload_n hx hb dX8_key_17 rfl (lv_at hl 2 rfl) ?_
    obtain ⟨q6, e7, h⟩ := ob h
    refine fr_i (M := (modelW cyI m0 m1 m2 m3 m4 m5 m6 state q4.1 q4.2 slots isSaved pad padLength opened pos letter first second)) (M' := (modelW cyI m0 m1 m2 m3 m4 m5 m6 q6.2 q4.1 q4.2 slots isSaved pad padLength opened pos letter first second)) (L' := (modelW cyI m0 m1 m2 m3 m4 m5 m6 q6.2 q4.1 q4.2 slots isSaved pad padLength opened pos letter first second)) (va_runV (As := [.int x1]) (rest := []) ⟨hx, hb, hml, hown, hts⟩ (mX8_makeKey l dC dI cyI cyO m0 m1 m2 m3 m4 m5 m6 state q4.1 q4.2 slots isSaved pad padLength opened pos letter first second x1 _ q6 e7) (cwV 1 hts (gV ml_X8_114 im_X8_makeKey se_X8_makeKey in_X8 co_X8_makeKey) rfl rfl rfl (by decide +kernel) ⟨Nat.le_of_ble_eq_true rfl, Nat.le_of_ble_eq_true rfl⟩) (cP_V hK hP hD [0, 1, 2, 3, 4, 5, 6] rfl rfl 0 rfl rfl) rfl rfl hl.1 rfl (lv_room (Nat.le_of_ble_eq_true rfl)) dX8_key_18 ⟨Nat.zero_le _, Nat.zero_le _⟩) hP hD hS hA [0, 1, 2, 3, 4, 5, 6] rfl [(true, 0), (true, 1), (true, 2), (true, 3), (true, 4), (true, 5), (true, 6)] rfl rfl rfl (fun H locs hP hD hS => ?_)
    obtain rfl := Option.some.inj h
    exact e_i hx hb hr hlocks hP hS dX8_key_21
  · have h := (if_neg c3).symm.trans h
    refine lv_iload_n hx hb dX8_key_10 rfl (lv_at hl 0 rfl) ?_
    obtain rfl := Option.some.inj h
    exact e_i hx hb hr hlocks hP hS dX8_key_11

noncomputable def fX8_whyNoBox (state : Nat → Int32) (x1 : Int32) : Option (Int32) :=
  ((fX8_isLiveKey state x1).bind fun q1 => (if q1 = 0 then (some (-1)) else (if (2 : Int32) < 0 ∨ 844 ≤ (2 : Int32).toNatClampNeg then none else (if (state (2 : Int32).toNatClampNeg) = 20 then (some (-4)) else (if (3 : Int32) < 0 ∨ 844 ≤ (3 : Int32).toNatClampNeg then none else (if (state (3 : Int32).toNatClampNeg) = 120 then (some (-4)) else ((fX8_canClose state x1).bind fun q8 => (if q8 = 0 then (some (-5)) else (some 0)))))))))
set_option maxHeartbeats 1000000 in
set_option maxRecDepth 100000 in
theorem mX8_whyNoBox (l : Launch) (dC : Nat → ClassId) (dI : Nat → Nat → Nat) (cyI cyO : ClassId) (m0 m1 m2 m3 m4 m5 m6 : Nat) (state : Nat → Int32) (history : Nat → Int32) (recorded : Int32) (slots : Nat → Int32) (isSaved : Nat → Int32) (pad : Nat → Int32) (padLength : Int32) (opened : Nat → Int32) (pos : Int32) (letter : Int32) (first : Int32) (second : Int32) (x1 : Int32) (sz : Nat) (res : Int32) (h : fX8_whyNoBox state x1 = some res) : Met l yX8_whyNoBox (wsG yX8_whyNoBox cX8_whyNoBox 2 (some .int)) ({ frames := 3, cells := 0, slots := 0, locals := 64 }) (cP dC dI cyI cyO sz [.ref m0, .int x1] (modelW cyI m0 m1 m2 m3 m4 m5 m6 state history recorded slots isSaved pad padLength opened pos letter first second)) (cI dC dI res (modelW cyI m0 m1 m2 m3 m4 m5 m6 state history recorded slots isSaved pad padLength opened pos letter first second) (va_A (modelW cyI m0 m1 m2 m3 m4 m5 m6 state history recorded slots isSaved pad padLength opened pos letter first second) sz)) 0 0 (va_A (modelW cyI m0 m1 m2 m3 m4 m5 m6 state history recorded slots isSaved pad padLength opened pos letter first second) sz) := by
  refine Met.ofW (cc := cX8_whyNoBox) (maxL := 2) (ret := (some .int)) (by decide) rfl ?_
  intro p e s m args below meth c s₁ B hml hv
  obtain ⟨rfl, hsz, hP, hK, hD0⟩ := hv
  have hx := B.exec
  have hb := B.bytes
  have hr := B.returns
  have hts := atoms_spec (ws := wsG yX8_whyNoBox cX8_whyNoBox 2 (some .int)) B.pre
  have hown : s.vm.findClass RX8 = some m.cls := findClass_of_methodNamed B.named
  have hlocks := B.notSynchronized
  subst hsz
  have hD := hD0.self (sz := s.heap.size)
  generalize hAe : va_A (modelW cyI m0 m1 m2 m3 m4 m5 m6 state history recorded slots isSaved pad padLength opened pos letter first second) s.heap.size = A at hD ⊢
  have hA : ∀ q : Nat, s.heap.size ≤ q → A q := fun q h => by rw [← hAe]; exact Or.inr h
  have hS : va_S A s.heap s.heap [] := va_S.rf
  have hl := lv_entry ([.ref m0, .int x1]) (n := 2) (Nat.le_of_ble_eq_true rfl)
  rw [lg_entry_eq]
  generalize (lg_sl ([.ref m0, .int x1]) ++ List.replicate (2 - (lg_sl ([.ref m0, .int x1])).length) Slot.unset).toArray = ls at hl ⊢
  have hl : lv_has ls 2 [(0, .ref m0), (1, .int x1)] := hl
  unfold fX8_whyNoBox at h
  refine lv_aload_n hx hb dX8_whyNoBox_0 rfl (lv_at hl 0 rfl) ?_
  refine lv_iload_n hx hb dX8_whyNoBox_1 rfl (lv_at hl 1 rfl) ?_
  obtain ⟨q1, e2, h⟩ := ob h
  refine fr_ir (M := (modelW cyI m0 m1 m2 m3 m4 m5 m6 state history recorded slots isSaved pad padLength opened pos letter first second)) (va_runV (As := [.int x1]) (rest := []) ⟨hx, hb, hml, hown, hts⟩ (mX8_isLiveKey l dC dI cyI cyO m0 m1 m2 m3 m4 m5 m6 state history recorded slots isSaved pad padLength opened pos letter first second x1 _ q1 e2) (cwV 1 hts (gV ml_X8_105 im_X8_isLiveKey se_X8_isLiveKey in_X8 co_X8_isLiveKey) rfl rfl rfl (by decide +kernel) ⟨Nat.le_of_ble_eq_true rfl, Nat.le_of_ble_eq_true rfl⟩) (cP_V hK hP hD [0, 1, 2, 3, 4, 5, 6] rfl rfl 0 rfl rfl) rfl rfl hl.1 rfl (lv_room (Nat.le_of_ble_eq_true rfl)) dX8_whyNoBox_2 ⟨Nat.zero_le _, Nat.zero_le _⟩) hP hD hS hA [0, 1, 2, 3, 4, 5, 6] rfl (fun H locs hP hS => ?_)
  refine lv_if_ne (tgt := 10) hx hb dX8_whyNoBox_5 (by decide) (fun c3 => ?_) (fun c3 => ?_)
  · have h := (if_neg c3).symm.trans h
    refine lv_aload_n hx hb dX8_whyNoBox_10 rfl (lv_at hl 0 rfl) ?_
    refine va_get (D := (dC, dI)) (ci := 8) (v := .ref m1) (C := RX8) (T := TX8) (N := 12) hx hb hts (fun w h9 => gb_mem (lay_X8 w h9)) hown hK.1 hP 0 rfl rfl 0 (by decide) (hts _ (gb_mem fl_X8_7)) (fun _ h9 => h9) rfl dX8_whyNoBox_11 ?_
    refine lv_iconst (v := 2) hx hb dX8_whyNoBox_14 (by decide) ?_
    obtain ⟨ni4, h⟩ := ifn h
    refine va_iald hx hb hK.1 hP 1 0 rfl rfl ni4 dX8_whyNoBox_15 ?_
    refine lv_bipush (v := 20) hx hb dX8_whyNoBox_16 (by decide) ?_
    refine lv_icmp_eq (tgt := 32) hx hb dX8_whyNoBox_18 (by decide) (fun c5 => ?_) (fun c5 => ?_)
    · have h := (if_pos c5).symm.trans h
      refine lv_bipush (v := (-4)) hx hb dX8_whyNoBox_32 (by decide) ?_
      refine lv_goto (tgt := 51) hx hb dX8_whyNoBox_34 (by decide) ?_
      obtain rfl := Option.some.inj h
      exact e_i hx hb hr hlocks hP hS dX8_whyNoBox_51
    · have h := (if_neg c5).symm.trans h
      refine lv_aload_n hx hb dX8_whyNoBox_21 rfl (lv_at hl 0 rfl) ?_
      refine va_get (D := (dC, dI)) (ci := 8) (v := .ref m1) (C := RX8) (T := TX8) (N := 12) hx hb hts (fun w h9 => gb_mem (lay_X8 w h9)) hown hK.1 hP 0 rfl rfl 0 (by decide) (hts _ (gb_mem fl_X8_7)) (fun _ h9 => h9) rfl dX8_whyNoBox_22 ?_
      refine lv_iconst (v := 3) hx hb dX8_whyNoBox_25 (by decide) ?_
      obtain ⟨ni6, h⟩ := ifn h
      refine va_iald hx hb hK.1 hP 1 0 rfl rfl ni6 dX8_whyNoBox_26 ?_
      refine lv_bipush (v := 120) hx hb dX8_whyNoBox_27 (by decide) ?_
      refine lv_icmp_ne (tgt := 37) hx hb dX8_whyNoBox_29 (by decide) (fun c7 => ?_) (fun c7 => ?_)
      · have h := (if_neg c7).symm.trans h
        refine lv_aload_n hx hb dX8_whyNoBox_37 rfl (lv_at hl 0 rfl) ?_
        refine lv_iload_n hx hb dX8_whyNoBox_38 rfl (lv_at hl 1 rfl) ?_
        obtain ⟨q8, e9, h⟩ := ob h
        refine fr_ir (M := (modelW cyI m0 m1 m2 m3 m4 m5 m6 state history recorded slots isSaved pad padLength opened pos letter first second)) (va_runV (As := [.int x1]) (rest := []) ⟨hx, hb, hml, hown, hts⟩ (mX8_canClose l dC dI cyI cyO m0 m1 m2 m3 m4 m5 m6 state history recorded slots isSaved pad padLength opened pos letter first second x1 _ q8 e9) (cwV 1 hts (gV ml_X8_108 im_X8_canClose se_X8_canClose in_X8 co_X8_canClose) rfl rfl rfl (by decide +kernel) ⟨Nat.le_of_ble_eq_true rfl, Nat.le_of_ble_eq_true rfl⟩) (cP_V hK hP hD [0, 1, 2, 3, 4, 5, 6] rfl rfl 0 rfl rfl) rfl rfl hl.1 rfl (lv_room (Nat.le_of_ble_eq_true rfl)) dX8_whyNoBox_39 ⟨Nat.zero_le _, Nat.zero_le _⟩) hP hD hS hA [0, 1, 2, 3, 4, 5, 6] rfl (fun H locs hP hS => ?_)
        refine lv_if_eq (tgt := 49) hx hb dX8_whyNoBox_42 (by decide) (fun c10 => ?_) (fun c10 => ?_)
        · have h := (if_pos c10).symm.trans h
          refine lv_bipush (v := (-5)) hx hb dX8_whyNoBox_49 (by decide) ?_
          obtain rfl := Option.some.inj h
          exact e_i hx hb hr hlocks hP hS dX8_whyNoBox_51
        · have h := (if_neg c10).symm.trans h
          refine lv_iconst (v := 0) hx hb dX8_whyNoBox_45 (by decide) ?_
          refine lv_goto (tgt := 51) hx hb dX8_whyNoBox_46 (by decide) ?_
          obtain rfl := Option.some.inj h
          exact e_i hx hb hr hlocks hP hS dX8_whyNoBox_51
      · have h := (if_pos c7).symm.trans h
        refine lv_bipush (v := (-4)) hx hb dX8_whyNoBox_32 (by decide) ?_
        refine lv_goto (tgt := 51) hx hb dX8_whyNoBox_34 (by decide) ?_
        obtain rfl := Option.some.inj h
        exact e_i hx hb hr hlocks hP hS dX8_whyNoBox_51
  · have h := (if_pos c3).symm.trans h
    refine lv_iconst (v := (-1)) hx hb dX8_whyNoBox_8 (by decide) ?_
    obtain rfl := Option.some.inj h
    exact e_i hx hb hr hlocks hP hS dX8_whyNoBox_9

noncomputable def fX8_makeBox (state : Nat → Int32) (x1 : Int32) : Option (Int32 × (Nat → Int32)) :=
  (if (2 : Int32) < 0 ∨ 844 ≤ (2 : Int32).toNatClampNeg then none else ((fX8_setBox state (state (2 : Int32).toNatClampNeg) 0 x1).bind fun q2 => ((fX8_setBox q2 (state (2 : Int32).toNatClampNeg) 1 1).bind fun q4 => (if (2 : Int32) < 0 ∨ 844 ≤ (2 : Int32).toNatClampNeg then none else (if (2 : Int32) < 0 ∨ 844 ≤ (2 : Int32).toNatClampNeg then none else ((fX8_wrapBox (upd q4 (2 : Int32).toNatClampNeg ((q4 (2 : Int32).toNatClampNeg) + 1)) (state (2 : Int32).toNatClampNeg)).bind fun q8 => (some ((state (2 : Int32).toNatClampNeg), q8))))))))
set_option maxHeartbeats 1000000 in
set_option maxRecDepth 100000 in
theorem mX8_makeBox (l : Launch) (dC : Nat → ClassId) (dI : Nat → Nat → Nat) (cyI cyO : ClassId) (m0 m1 m2 m3 m4 m5 m6 : Nat) (state : Nat → Int32) (history : Nat → Int32) (recorded : Int32) (slots : Nat → Int32) (isSaved : Nat → Int32) (pad : Nat → Int32) (padLength : Int32) (opened : Nat → Int32) (pos : Int32) (letter : Int32) (first : Int32) (second : Int32) (x1 : Int32) (sz : Nat) (res : Int32 × (Nat → Int32)) (h : fX8_makeBox state x1 = some res) : Met l yX8_makeBox (wsG yX8_makeBox cX8_makeBox 3 (some .int)) ({ frames := 3, cells := 0, slots := 0, locals := 68 }) (cP dC dI cyI cyO sz [.ref m0, .int x1] (modelW cyI m0 m1 m2 m3 m4 m5 m6 state history recorded slots isSaved pad padLength opened pos letter first second)) (cI dC dI res.1 (modelW cyI m0 m1 m2 m3 m4 m5 m6 res.2 history recorded slots isSaved pad padLength opened pos letter first second) (va_A (modelW cyI m0 m1 m2 m3 m4 m5 m6 state history recorded slots isSaved pad padLength opened pos letter first second) sz)) 0 0 (va_A (modelW cyI m0 m1 m2 m3 m4 m5 m6 state history recorded slots isSaved pad padLength opened pos letter first second) sz) := by
  refine Met.ofW (cc := cX8_makeBox) (maxL := 3) (ret := (some .int)) (by decide) rfl ?_
  intro p e s m args below meth c s₁ B hml hv
  obtain ⟨rfl, hsz, hP, hK, hD0⟩ := hv
  have hx := B.exec
  have hb := B.bytes
  have hr := B.returns
  have hts := atoms_spec (ws := wsG yX8_makeBox cX8_makeBox 3 (some .int)) B.pre
  have hown : s.vm.findClass RX8 = some m.cls := findClass_of_methodNamed B.named
  have hlocks := B.notSynchronized
  subst hsz
  have hD := hD0.self (sz := s.heap.size)
  generalize hAe : va_A (modelW cyI m0 m1 m2 m3 m4 m5 m6 state history recorded slots isSaved pad padLength opened pos letter first second) s.heap.size = A at hD ⊢
  have hA : ∀ q : Nat, s.heap.size ≤ q → A q := fun q h => by rw [← hAe]; exact Or.inr h
  have hS : va_S A s.heap s.heap [] := va_S.rf
  have hl := lv_entry ([.ref m0, .int x1]) (n := 3) (Nat.le_of_ble_eq_true rfl)
  rw [lg_entry_eq]
  generalize (lg_sl ([.ref m0, .int x1]) ++ List.replicate (3 - (lg_sl ([.ref m0, .int x1])).length) Slot.unset).toArray = ls at hl ⊢
  have hl : lv_has ls 3 [(0, .ref m0), (1, .int x1)] := hl
  unfold fX8_makeBox at h
  refine lv_aload_n hx hb dX8_makeBox_0 rfl (lv_at hl 0 rfl) ?_
  refine va_get (D := (dC, dI)) (ci := 8) (v := .ref m1) (C := RX8) (T := TX8) (N := 12) hx hb hts (fun w h9 => gb_mem (lay_X8 w h9)) hown hK.1 hP 0 rfl rfl 0 (by decide) (hts _ (gb_mem fl_X8_7)) (fun _ h9 => h9) rfl dX8_makeBox_1 ?_
  refine lv_iconst (v := 2) hx hb dX8_makeBox_4 (by decide) ?_
  obtain ⟨ni1, h⟩ := ifn h
  refine va_iald hx hb hK.1 hP 1 0 rfl rfl ni1 dX8_makeBox_5 ?_
  refine lv_istore_n (lv' := [(2, .int (state (2 : Int32).toNatClampNeg)), (0, .ref m0), (1, .int x1)]) hx hb dX8_makeBox_6 rfl hl (by decide) rfl (fun ls hl => ?_)
  refine lv_aload_n hx hb dX8_makeBox_7 rfl (lv_at hl 1 rfl) ?_
  refine lv_iload_n hx hb dX8_makeBox_8 rfl (lv_at hl 0 rfl) ?_
  refine lv_iconst (v := 0) hx hb dX8_makeBox_9 (by decide) ?_
  refine lv_iload_n hx hb dX8_makeBox_10 rfl (lv_at hl 2 rfl) ?_
  obtain ⟨q2, e3, h⟩ := ob h
  refine fr_v (M := (modelW cyI m0 m1 m2 m3 m4 m5 m6 state history recorded slots isSaved pad padLength opened pos letter first second)) (M' := (modelW cyI m0 m1 m2 m3 m4 m5 m6 q2 history recorded slots isSaved pad padLength opened pos letter first second)) (L' := (modelW cyI m0 m1 m2 m3 m4 m5 m6 q2 history recorded slots isSaved pad padLength opened pos letter first second)) (va_runV (As := [.int (state (2 : Int32).toNatClampNeg), .int 0, .int x1]) (rest := []) ⟨hx, hb, hml, hown, hts⟩ (mX8_setBox l dC dI cyI cyO m0 m1 m2 m3 m4 m5 m6 state history recorded slots isSaved pad padLength opened pos letter first second (state (2 : Int32).toNatClampNeg) 0 x1 _ q2 e3) (cwV 3 hts (gV ml_X8_117 im_X8_setBox se_X8_setBox in_X8 co_X8_setBox) rfl rfl rfl (by decide +kernel) ⟨Nat.le_of_ble_eq_true rfl, Nat.le_of_ble_eq_true rfl⟩) (cP_V hK hP hD [0, 1, 2, 3, 4, 5, 6] rfl rfl 0 rfl rfl) rfl rfl hl.1 rfl (lv_room (Nat.le_of_ble_eq_true rfl)) dX8_makeBox_11 ⟨Nat.zero_le _, Nat.zero_le _⟩) hP hD hS hA [0, 1, 2, 3, 4, 5, 6] rfl [(true, 0), (true, 1), (true, 2), (true, 3), (true, 4), (true, 5), (true, 6)] rfl rfl rfl (fun H locs hP hD hS => ?_)
  refine lv_aload_n hx hb dX8_makeBox_14 rfl (lv_at hl 1 rfl) ?_
  refine lv_iload_n hx hb dX8_makeBox_15 rfl (lv_at hl 0 rfl) ?_
  refine lv_iconst (v := 1) hx hb dX8_makeBox_16 (by decide) ?_
  refine lv_iconst (v := 1) hx hb dX8_makeBox_17 (by decide) ?_
  obtain ⟨q4, e5, h⟩ := ob h
  refine fr_v (M := (modelW cyI m0 m1 m2 m3 m4 m5 m6 q2 history recorded slots isSaved pad padLength opened pos letter first second)) (M' := (modelW cyI m0 m1 m2 m3 m4 m5 m6 q4 history recorded slots isSaved pad padLength opened pos letter first second)) (L' := (modelW cyI m0 m1 m2 m3 m4 m5 m6 q4 history recorded slots isSaved pad padLength opened pos letter first second)) (va_runV (As := [.int (state (2 : Int32).toNatClampNeg), .int 1, .int 1]) (rest := []) ⟨hx, hb, hml, hown, hts⟩ (mX8_setBox l dC dI cyI cyO m0 m1 m2 m3 m4 m5 m6 q2 history recorded slots isSaved pad padLength opened pos letter first second (state (2 : Int32).toNatClampNeg) 1 1 _ q4 e5) (cwV 3 hts (gV ml_X8_117 im_X8_setBox se_X8_setBox in_X8 co_X8_setBox) rfl rfl rfl (by decide +kernel) ⟨Nat.le_of_ble_eq_true rfl, Nat.le_of_ble_eq_true rfl⟩) (cP_V hK hP hD [0, 1, 2, 3, 4, 5, 6] rfl rfl 0 rfl rfl) rfl rfl hl.1 rfl (lv_room (Nat.le_of_ble_eq_true rfl)) dX8_makeBox_18 ⟨Nat.zero_le _, Nat.zero_le _⟩) hP hD hS hA [0, 1, 2, 3, 4, 5, 6] rfl [(true, 0), (true, 1), (true, 2), (true, 3), (true, 4), (true, 5), (true, 6)] rfl rfl rfl (fun H locs hP hD hS => ?_)
  refine lv_aload_n hx hb dX8_makeBox_21 rfl (lv_at hl 1 rfl) ?_
  refine va_get (D := (dC, dI)) (ci := 8) (v := .ref m1) (C := RX8) (T := TX8) (N := 12) hx hb hts (fun w h9 => gb_mem (lay_X8 w h9)) hown hK.1 hP 0 rfl rfl 0 (by decide) (hts _ (gb_mem fl_X8_7)) (fun _ h9 => h9) rfl dX8_makeBox_22 ?_
  refine lv_iconst (v := 2) hx hb dX8_makeBox_25 (by decide) ?_
  refine lv_dup2_11 hx hb dX8_makeBox_26 rfl rfl ?_
  obtain ⟨ni6, h⟩ := ifn h
  refine va_iald hx hb hK.1 hP 1 0 rfl rfl ni6 dX8_makeBox_27 ?_
  refine lv_iconst (v := 1) hx hb dX8_makeBox_28 (by decide) ?_
  refine lv_iadd hx hb dX8_makeBox_29 ?_
  obtain ⟨ni7, h⟩ := ifn h
  refine va_iast hx hb hK.1 hP hD hS 1 0 rfl rfl ni7 dX8_makeBox_30 (fun H locs hP hD hS => ?_)
  have hP : va_P (dC, dI) vwCl (modelW cyI m0 m1 m2 m3 m4 m5 m6 (upd q4 (2 : Int32).toNatClampNeg ((q4 (2 : Int32).toNatClampNeg) + 1)) history recorded slots isSaved pad padLength opened pos letter first second) H := hP
  have hD : va_D A (modelW cyI m0 m1 m2 m3 m4 m5 m6 (upd q4 (2 : Int32).toNatClampNeg ((q4 (2 : Int32).toNatClampNeg) + 1)) history recorded slots isSaved pad padLength opened pos letter first second) := hD
  refine lv_aload_n hx hb dX8_makeBox_31 rfl (lv_at hl 1 rfl) ?_
  refine lv_iload_n hx hb dX8_makeBox_32 rfl (lv_at hl 0 rfl) ?_
  obtain ⟨q8, e9, h⟩ := ob h
  refine fr_v (M := (modelW cyI m0 m1 m2 m3 m4 m5 m6 (upd q4 (2 : Int32).toNatClampNeg ((q4 (2 : Int32).toNatClampNeg) + 1)) history recorded slots isSaved pad padLength opened pos letter first second)) (M' := (modelW cyI m0 m1 m2 m3 m4 m5 m6 q8 history recorded slots isSaved pad padLength opened pos letter first second)) (L' := (modelW cyI m0 m1 m2 m3 m4 m5 m6 q8 history recorded slots isSaved pad padLength opened pos letter first second)) (va_runV (As := [.int (state (2 : Int32).toNatClampNeg)]) (rest := []) ⟨hx, hb, hml, hown, hts⟩ (mX8_wrapBox l dC dI cyI cyO m0 m1 m2 m3 m4 m5 m6 (upd q4 (2 : Int32).toNatClampNeg ((q4 (2 : Int32).toNatClampNeg) + 1)) history recorded slots isSaved pad padLength opened pos letter first second (state (2 : Int32).toNatClampNeg) _ q8 e9) (cwV 1 hts (gV ml_X8_78 im_X8_wrapBox se_X8_wrapBox in_X8 co_X8_wrapBox) rfl rfl rfl (by decide +kernel) ⟨Nat.le_of_ble_eq_true rfl, Nat.le_of_ble_eq_true rfl⟩) (cP_V hK hP hD [0, 1, 2, 3, 4, 5, 6] rfl rfl 0 rfl rfl) rfl rfl hl.1 rfl (lv_room (Nat.le_of_ble_eq_true rfl)) dX8_makeBox_33 ⟨Nat.zero_le _, Nat.zero_le _⟩) hP hD hS hA [0, 1, 2, 3, 4, 5, 6] rfl [(true, 0), (true, 1), (true, 2), (true, 3), (true, 4), (true, 5), (true, 6)] rfl rfl rfl (fun H locs hP hD hS => ?_)
  refine lv_iload_n hx hb dX8_makeBox_36 rfl (lv_at hl 0 rfl) ?_
  obtain rfl := Option.some.inj h
  exact e_i hx hb hr hlocks hP hS dX8_makeBox_37

noncomputable def fX8_box (state : Nat → Int32) (history : Nat → Int32) (recorded : Int32) (x1 : Int32) : Option (Int32 × (Nat → Int32) × (Nat → Int32) × Int32) :=
  ((fX8_whyNoBox state x1).bind fun q1 => (if 0 ≤ q1 then ((fX8_record state history recorded).bind fun q4 => ((fX8_makeBox state x1).bind fun q6 => (some (q6.1, q6.2, q4.1, q4.2)))) else (some (q1, state, history, recorded))))
set_option maxHeartbeats 1000000 in
set_option maxRecDepth 100000 in
theorem mX8_box (l : Launch) (dC : Nat → ClassId) (dI : Nat → Nat → Nat) (cyI cyO : ClassId) (m0 m1 m2 m3 m4 m5 m6 : Nat) (state : Nat → Int32) (history : Nat → Int32) (recorded : Int32) (slots : Nat → Int32) (isSaved : Nat → Int32) (pad : Nat → Int32) (padLength : Int32) (opened : Nat → Int32) (pos : Int32) (letter : Int32) (first : Int32) (second : Int32) (x1 : Int32) (sz : Nat) (res : Int32 × (Nat → Int32) × (Nat → Int32) × Int32) (h : fX8_box state history recorded x1 = some res) : Met l yX8_box (wsG yX8_box cX8_box 3 (some .int)) ({ frames := 4, cells := 0, slots := 0, locals := 90 }) (cP dC dI cyI cyO sz [.ref m0, .int x1] (modelW cyI m0 m1 m2 m3 m4 m5 m6 state history recorded slots isSaved pad padLength opened pos letter first second)) (cI dC dI res.1 (modelW cyI m0 m1 m2 m3 m4 m5 m6 res.2.1 res.2.2.1 res.2.2.2 slots isSaved pad padLength opened pos letter first second) (va_A (modelW cyI m0 m1 m2 m3 m4 m5 m6 state history recorded slots isSaved pad padLength opened pos letter first second) sz)) 0 0 (va_A (modelW cyI m0 m1 m2 m3 m4 m5 m6 state history recorded slots isSaved pad padLength opened pos letter first second) sz) := by
  refine Met.ofW (cc := cX8_box) (maxL := 3) (ret := (some .int)) (by decide) rfl ?_
  intro p e s m args below meth c s₁ B hml hv
  obtain ⟨rfl, hsz, hP, hK, hD0⟩ := hv
  have hx := B.exec
  have hb := B.bytes
  have hr := B.returns
  have hts := atoms_spec (ws := wsG yX8_box cX8_box 3 (some .int)) B.pre
  have hown : s.vm.findClass RX8 = some m.cls := findClass_of_methodNamed B.named
  have hlocks := B.notSynchronized
  subst hsz
  have hD := hD0.self (sz := s.heap.size)
  generalize hAe : va_A (modelW cyI m0 m1 m2 m3 m4 m5 m6 state history recorded slots isSaved pad padLength opened pos letter first second) s.heap.size = A at hD ⊢
  have hA : ∀ q : Nat, s.heap.size ≤ q → A q := fun q h => by rw [← hAe]; exact Or.inr h
  have hS : va_S A s.heap s.heap [] := va_S.rf
  have hl := lv_entry ([.ref m0, .int x1]) (n := 3) (Nat.le_of_ble_eq_true rfl)
  rw [lg_entry_eq]
  generalize (lg_sl ([.ref m0, .int x1]) ++ List.replicate (3 - (lg_sl ([.ref m0, .int x1])).length) Slot.unset).toArray = ls at hl ⊢
  have hl : lv_has ls 3 [(0, .ref m0), (1, .int x1)] := hl
  unfold fX8_box at h
  refine lv_aload_n hx hb dX8_box_0 rfl (lv_at hl 0 rfl) ?_
  refine lv_iload_n hx hb dX8_box_1 rfl (lv_at hl 1 rfl) ?_
  obtain ⟨q1, e2, h⟩ := ob h
  refine fr_ir (M := (modelW cyI m0 m1 m2 m3 m4 m5 m6 state history recorded slots isSaved pad padLength opened pos letter first second)) (va_runV (As := [.int x1]) (rest := []) ⟨hx, hb, hml, hown, hts⟩ (mX8_whyNoBox l dC dI cyI cyO m0 m1 m2 m3 m4 m5 m6 state history recorded slots isSaved pad padLength opened pos letter first second x1 _ q1 e2) (cwV 1 hts (gV ml_X8_120 im_X8_whyNoBox se_X8_whyNoBox in_X8 co_X8_whyNoBox) rfl rfl rfl (by decide +kernel) ⟨Nat.le_of_ble_eq_true rfl, Nat.le_of_ble_eq_true rfl⟩) (cP_V hK hP hD [0, 1, 2, 3, 4, 5, 6] rfl rfl 0 rfl rfl) rfl rfl hl.1 rfl (lv_room (Nat.le_of_ble_eq_true rfl)) dX8_box_2 ⟨Nat.zero_le _, Nat.zero_le _⟩) hP hD hS hA [0, 1, 2, 3, 4, 5, 6] rfl (fun H locs hP hS => ?_)
  refine lv_istore_n (lv' := [(2, .int q1), (0, .ref m0), (1, .int x1)]) hx hb dX8_box_5 rfl hl (by decide) rfl (fun ls hl => ?_)
  refine lv_iload_n hx hb dX8_box_6 rfl (lv_at hl 0 rfl) ?_
  refine lv_if_ge (tgt := 12) hx hb dX8_box_7 (by decide) (fun c3 => ?_) (fun c3 => ?_)
  · have h := (if_pos c3).symm.trans h
    refine lv_aload_n hx hb dX8_box_12 rfl (lv_at hl 1 rfl) ?_
    obtain ⟨q4, e5, h⟩ := ob h
    refine fr_v (M := (modelW cyI m0 m1 m2 m3 m4 m5 m6 state history recorded slots isSaved pad padLength opened pos letter first second)) (M' := (modelW cyI m0 m1 m2 m3 m4 m5 m6 state q4.1 q4.2 slots isSaved pad padLength opened pos letter first second)) (L' := (modelW cyI m0 m1 m2 m3 m4 m5 m6 state q4.1 q4.2 slots isSaved pad padLength opened pos letter first second)) (va_runV (As := []) (rest := []) ⟨hx, hb, hml, hown, hts⟩ (mX8_record l dC dI cyI cyO m0 m1 m2 m3 m4 m5 m6 state history recorded slots isSaved pad padLength opened pos letter first second _ q4 e5) (cwV 0 hts (gV ml_X8_102 im_X8_record se_X8_record in_X8 co_X8_record) rfl rfl rfl (by decide +kernel) ⟨Nat.le_of_ble_eq_true rfl, Nat.le_of_ble_eq_true rfl⟩) (cP_V hK hP hD [0, 1, 2, 3, 4, 5, 6] rfl rfl 0 rfl rfl) rfl rfl hl.1 rfl (lv_room (Nat.le_of_ble_eq_true rfl)) dX8_box_13 ⟨Nat.zero_le _, Nat.zero_le _⟩) hP hD hS hA [0, 1, 2, 3, 4, 5, 6] rfl [(true, 0), (true, 1), (true, 2), (true, 3), (true, 4), (true, 5), (true, 6)] rfl rfl rfl (fun H locs hP hD hS => ?_)
    refine lv_aload_n hx hb dX8_box_16 rfl (lv_at hl 1 rfl) ?_
    refine lv_iload_n hx hb dX8_box_17 rfl (lv_at hl 2 rfl) ?_
    obtain ⟨q6, e7, h⟩ := ob h
    refine fr_i (M := (modelW cyI m0 m1 m2 m3 m4 m5 m6 state q4.1 q4.2 slots isSaved pad padLength opened pos letter first second)) (M' := (modelW cyI m0 m1 m2 m3 m4 m5 m6 q6.2 q4.1 q4.2 slots isSaved pad padLength opened pos letter first second)) (L' := (modelW cyI m0 m1 m2 m3 m4 m5 m6 q6.2 q4.1 q4.2 slots isSaved pad padLength opened pos letter first second)) (va_runV (As := [.int x1]) (rest := []) ⟨hx, hb, hml, hown, hts⟩ (mX8_makeBox l dC dI cyI cyO m0 m1 m2 m3 m4 m5 m6 state q4.1 q4.2 slots isSaved pad padLength opened pos letter first second x1 _ q6 e7) (cwV 1 hts (gV ml_X8_123 im_X8_makeBox se_X8_makeBox in_X8 co_X8_makeBox) rfl rfl rfl (by decide +kernel) ⟨Nat.le_of_ble_eq_true rfl, Nat.le_of_ble_eq_true rfl⟩) (cP_V hK hP hD [0, 1, 2, 3, 4, 5, 6] rfl rfl 0 rfl rfl) rfl rfl hl.1 rfl (lv_room (Nat.le_of_ble_eq_true rfl)) dX8_box_18 ⟨Nat.zero_le _, Nat.zero_le _⟩) hP hD hS hA [0, 1, 2, 3, 4, 5, 6] rfl [(true, 0), (true, 1), (true, 2), (true, 3), (true, 4), (true, 5), (true, 6)] rfl rfl rfl (fun H locs hP hD hS => ?_)
    obtain rfl := Option.some.inj h
    exact e_i hx hb hr hlocks hP hS dX8_box_21
  · have h := (if_neg c3).symm.trans h
    refine lv_iload_n hx hb dX8_box_10 rfl (lv_at hl 0 rfl) ?_
    obtain rfl := Option.some.inj h
    exact e_i hx hb hr hlocks hP hS dX8_box_11

noncomputable def fX8_whyNoCopy (state : Nat → Int32) (x1 : Int32) (x2 : Int32) : Option (Int32) :=
  (if (3 : Int32) < 0 ∨ 844 ≤ (3 : Int32).toNatClampNeg then none else (if (fX8_within x1 0 ((state (3 : Int32).toNatClampNeg) - 1)) = 0 then (some (-1)) else (if (fX8_within x2 0 2) = 0 then (some (-2)) else ((fX8_wrapPart state x1 4).bind fun q4 => (if q4 = 0 then (some (-5)) else ((fX8_wrapPart state x1 5).bind fun q7 => (if ((q7 >>> (x2 &&& 31)) &&& 1) = 1 then (some (-5)) else (some 0))))))))
set_option maxHeartbeats 1000000 in
set_option maxRecDepth 100000 in
theorem mX8_whyNoCopy (l : Launch) (dC : Nat → ClassId) (dI : Nat → Nat → Nat) (cyI cyO : ClassId) (m0 m1 m2 m3 m4 m5 m6 : Nat) (state : Nat → Int32) (history : Nat → Int32) (recorded : Int32) (slots : Nat → Int32) (isSaved : Nat → Int32) (pad : Nat → Int32) (padLength : Int32) (opened : Nat → Int32) (pos : Int32) (letter : Int32) (first : Int32) (second : Int32) (x1 : Int32) (x2 : Int32) (sz : Nat) (res : Int32) (h : fX8_whyNoCopy state x1 x2 = some res) : Met l yX8_whyNoCopy (wsG yX8_whyNoCopy cX8_whyNoCopy 3 (some .int)) ({ frames := 1, cells := 0, slots := 0, locals := 22 }) (cP dC dI cyI cyO sz [.ref m0, .int x1, .int x2] (modelW cyI m0 m1 m2 m3 m4 m5 m6 state history recorded slots isSaved pad padLength opened pos letter first second)) (cI dC dI res (modelW cyI m0 m1 m2 m3 m4 m5 m6 state history recorded slots isSaved pad padLength opened pos letter first second) (va_A (modelW cyI m0 m1 m2 m3 m4 m5 m6 state history recorded slots isSaved pad padLength opened pos letter first second) sz)) 0 0 (va_A (modelW cyI m0 m1 m2 m3 m4 m5 m6 state history recorded slots isSaved pad padLength opened pos letter first second) sz) := by
  refine Met.ofW (cc := cX8_whyNoCopy) (maxL := 3) (ret := (some .int)) (by decide) rfl ?_
  intro p e s m args below meth c s₁ B hml hv
  obtain ⟨rfl, hsz, hP, hK, hD0⟩ := hv
  have hx := B.exec
  have hb := B.bytes
  have hr := B.returns
  have hts := atoms_spec (ws := wsG yX8_whyNoCopy cX8_whyNoCopy 3 (some .int)) B.pre
  have hown : s.vm.findClass RX8 = some m.cls := findClass_of_methodNamed B.named
  have hlocks := B.notSynchronized
  subst hsz
  have hD := hD0.self (sz := s.heap.size)
  generalize hAe : va_A (modelW cyI m0 m1 m2 m3 m4 m5 m6 state history recorded slots isSaved pad padLength opened pos letter first second) s.heap.size = A at hD ⊢
  have hA : ∀ q : Nat, s.heap.size ≤ q → A q := fun q h => by rw [← hAe]; exact Or.inr h
  have hS : va_S A s.heap s.heap [] := va_S.rf
  have hl := lv_entry ([.ref m0, .int x1, .int x2]) (n := 3) (Nat.le_of_ble_eq_true rfl)
  rw [lg_entry_eq]
  generalize (lg_sl ([.ref m0, .int x1, .int x2]) ++ List.replicate (3 - (lg_sl ([.ref m0, .int x1, .int x2])).length) Slot.unset).toArray = ls at hl ⊢
  have hl : lv_has ls 3 [(0, .ref m0), (1, .int x1), (2, .int x2)] := hl
  unfold fX8_whyNoCopy at h
  refine lv_iload_n hx hb dX8_whyNoCopy_0 rfl (lv_at hl 1 rfl) ?_
  refine lv_iconst (v := 0) hx hb dX8_whyNoCopy_1 (by decide) ?_
  refine lv_aload_n hx hb dX8_whyNoCopy_2 rfl (lv_at hl 0 rfl) ?_
  refine va_get (D := (dC, dI)) (ci := 8) (v := .ref m1) (C := RX8) (T := TX8) (N := 12) hx hb hts (fun w h9 => gb_mem (lay_X8 w h9)) hown hK.1 hP 0 rfl rfl 0 (by decide) (hts _ (gb_mem fl_X8_7)) (fun _ h9 => h9) rfl dX8_whyNoCopy_3 ?_
  refine lv_iconst (v := 3) hx hb dX8_whyNoCopy_6 (by decide) ?_
  obtain ⟨ni1, h⟩ := ifn h
  refine va_iald hx hb hK.1 hP 1 0 rfl rfl ni1 dX8_whyNoCopy_7 ?_
  refine lv_iconst (v := 1) hx hb dX8_whyNoCopy_8 (by decide) ?_
  refine lv_isub hx hb dX8_whyNoCopy_9 ?_
  refine fr_ir (M := ([] : va_W)) (va_runS (As := [.int x1, .int 0, .int ((state (3 : Int32).toNatClampNeg) - 1)]) (rest := []) ⟨hx, hb, hml, hown, hts⟩ (mX8_within l dC dI cyI cyO x1 0 ((state (3 : Int32).toNatClampNeg) - 1) _ (fX8_within x1 0 ((state (3 : Int32).toNatClampNeg) - 1)) rfl) (va_cwS 3 hts (gS ml_X8_36 st_X8_within in_X8 co_X8_within) rfl rfl rfl (by decide +kernel) ⟨Nat.le_of_ble_eq_true rfl, Nat.le_of_ble_eq_true rfl⟩) (cP_S hK hP hD [] rfl rfl) rfl rfl hl.1 rfl (lv_room (Nat.le_of_ble_eq_true rfl)) dX8_whyNoCopy_10 ⟨Nat.zero_le _, Nat.zero_le _⟩) hP hD hS hA [] rfl (fun H locs hP hS => ?_)
  refine lv_if_ne (tgt := 18) hx hb dX8_whyNoCopy_13 (by decide) (fun c2 => ?_) (fun c2 => ?_)
  · have h := (if_neg c2).symm.trans h
    refine lv_iload_n hx hb dX8_whyNoCopy_18 rfl (lv_at hl 2 rfl) ?_
    refine lv_iconst (v := 0) hx hb dX8_whyNoCopy_19 (by decide) ?_
    refine lv_iconst (v := 2) hx hb dX8_whyNoCopy_20 (by decide) ?_
    refine fr_ir (M := ([] : va_W)) (va_runS (As := [.int x2, .int 0, .int 2]) (rest := []) ⟨hx, hb, hml, hown, hts⟩ (mX8_within l dC dI cyI cyO x2 0 2 _ (fX8_within x2 0 2) rfl) (va_cwS 3 hts (gS ml_X8_36 st_X8_within in_X8 co_X8_within) rfl rfl rfl (by decide +kernel) ⟨Nat.le_of_ble_eq_true rfl, Nat.le_of_ble_eq_true rfl⟩) (cP_S hK hP hD [] rfl rfl) rfl rfl hl.1 rfl (lv_room (Nat.le_of_ble_eq_true rfl)) dX8_whyNoCopy_21 ⟨Nat.zero_le _, Nat.zero_le _⟩) hP hD hS hA [] rfl (fun H locs hP hS => ?_)
    refine lv_if_ne (tgt := 30) hx hb dX8_whyNoCopy_24 (by decide) (fun c3 => ?_) (fun c3 => ?_)
    · have h := (if_neg c3).symm.trans h
      refine lv_aload_n hx hb dX8_whyNoCopy_30 rfl (lv_at hl 0 rfl) ?_
      refine lv_iload_n hx hb dX8_whyNoCopy_31 rfl (lv_at hl 1 rfl) ?_
      refine lv_iconst (v := 4) hx hb dX8_whyNoCopy_32 (by decide) ?_
      obtain ⟨q4, e5, h⟩ := ob h
      refine fr_ir (M := (modelW cyI m0 m1 m2 m3 m4 m5 m6 state history recorded slots isSaved pad padLength opened pos letter first second)) (va_runV (As := [.int x1, .int 4]) (rest := []) ⟨hx, hb, hml, hown, hts⟩ (mX8_wrapPart l dC dI cyI cyO m0 m1 m2 m3 m4 m5 m6 state history recorded slots isSaved pad padLength opened pos letter first second x1 4 _ q4 e5) (cwV 2 hts (gV ml_X8_81 im_X8_wrapPart se_X8_wrapPart in_X8 co_X8_wrapPart) rfl rfl rfl (by decide +kernel) ⟨Nat.le_of_ble_eq_true rfl, Nat.le_of_ble_eq_true rfl⟩) (cP_V hK hP hD [0, 1, 2, 3, 4, 5, 6] rfl rfl 0 rfl rfl) rfl rfl hl.1 rfl (lv_room (Nat.le_of_ble_eq_true rfl)) dX8_whyNoCopy_33 ⟨Nat.zero_le _, Nat.zero_le _⟩) hP hD hS hA [0, 1, 2, 3, 4, 5, 6] rfl (fun H locs hP hS => ?_)
      refine lv_if_eq (tgt := 53) hx hb dX8_whyNoCopy_36 (by decide) (fun c6 => ?_) (fun c6 => ?_)
      · have h := (if_pos c6).symm.trans h
        refine lv_bipush (v := (-5)) hx hb dX8_whyNoCopy_53 (by decide) ?_
        refine lv_goto (tgt := 59) hx hb dX8_whyNoCopy_55 (by decide) ?_
        obtain rfl := Option.some.inj h
        exact e_i hx hb hr hlocks hP hS dX8_whyNoCopy_59
      · have h := (if_neg c6).symm.trans h
        refine lv_aload_n hx hb dX8_whyNoCopy_39 rfl (lv_at hl 0 rfl) ?_
        refine lv_iload_n hx hb dX8_whyNoCopy_40 rfl (lv_at hl 1 rfl) ?_
        refine lv_iconst (v := 5) hx hb dX8_whyNoCopy_41 (by decide) ?_
        obtain ⟨q7, e8, h⟩ := ob h
        refine fr_ir (M := (modelW cyI m0 m1 m2 m3 m4 m5 m6 state history recorded slots isSaved pad padLength opened pos letter first second)) (va_runV (As := [.int x1, .int 5]) (rest := []) ⟨hx, hb, hml, hown, hts⟩ (mX8_wrapPart l dC dI cyI cyO m0 m1 m2 m3 m4 m5 m6 state history recorded slots isSaved pad padLength opened pos letter first second x1 5 _ q7 e8) (cwV 2 hts (gV ml_X8_81 im_X8_wrapPart se_X8_wrapPart in_X8 co_X8_wrapPart) rfl rfl rfl (by decide +kernel) ⟨Nat.le_of_ble_eq_true rfl, Nat.le_of_ble_eq_true rfl⟩) (cP_V hK hP hD [0, 1, 2, 3, 4, 5, 6] rfl rfl 0 rfl rfl) rfl rfl hl.1 rfl (lv_room (Nat.le_of_ble_eq_true rfl)) dX8_whyNoCopy_42 ⟨Nat.zero_le _, Nat.zero_le _⟩) hP hD hS hA [0, 1, 2, 3, 4, 5, 6] rfl (fun H locs hP hS => ?_)
        refine lv_iload_n hx hb dX8_whyNoCopy_45 rfl (lv_at hl 2 rfl) ?_
        refine lv_ishr hx hb dX8_whyNoCopy_46 ?_
        refine lv_iconst (v := 1) hx hb dX8_whyNoCopy_47 (by decide) ?_
        refine lv_iand hx hb dX8_whyNoCopy_48 ?_
        refine lv_iconst (v := 1) hx hb dX8_whyNoCopy_49 (by decide) ?_
        refine lv_icmp_ne (tgt := 58) hx hb dX8_whyNoCopy_50 (by decide) (fun c9 => ?_) (fun c9 => ?_)
        · have h := (if_neg c9).symm.trans h
          refine lv_iconst (v := 0) hx hb dX8_whyNoCopy_58 (by decide) ?_
          obtain rfl := Option.some.inj h
          exact e_i hx hb hr hlocks hP hS dX8_whyNoCopy_59
        · have h := (if_pos c9).symm.trans h
          refine lv_bipush (v := (-5)) hx hb dX8_whyNoCopy_53 (by decide) ?_
          refine lv_goto (tgt := 59) hx hb dX8_whyNoCopy_55 (by decide) ?_
          obtain rfl := Option.some.inj h
          exact e_i hx hb hr hlocks hP hS dX8_whyNoCopy_59
    · have h := (if_pos c3).symm.trans h
      refine lv_bipush (v := (-2)) hx hb dX8_whyNoCopy_27 (by decide) ?_
      obtain rfl := Option.some.inj h
      exact e_i hx hb hr hlocks hP hS dX8_whyNoCopy_29
  · have h := (if_pos c2).symm.trans h
    refine lv_iconst (v := (-1)) hx hb dX8_whyNoCopy_16 (by decide) ?_
    obtain rfl := Option.some.inj h
    exact e_i hx hb hr hlocks hP hS dX8_whyNoCopy_17
noncomputable def fX8_copied_b21 : Nat → (Nat → Int32) → Int32 → Int32 → Int32 → Option (Int32 × (Nat → Int32))
  | 0, _, _, _, _ => none
  | fuel + 1, state, y2, y3, y4 =>
  (if (3 : Int32) < 0 ∨ 844 ≤ (3 : Int32).toNatClampNeg then none else (if (state (3 : Int32).toNatClampNeg) ≤ y4 then (some (y3, state)) else ((fX8_wrapPart state y4 5).bind fun q3 => fX8_copied_b21 fuel state y2 (y3 + ((q3 >>> (y2 &&& 31)) &&& 1)) (y4 + 1))))

noncomputable def fX8_copied (state : Nat → Int32) (x1 : Int32) (x2 : Int32) : Option (Int32 × (Nat → Int32)) :=
  ((fX8_wrapPart state x1 5).bind fun q5 => ((fX8_setWrap state x1 5 (q5 ||| (1 <<< (x2 &&& 31)))).bind fun q7 => fX8_copied_b21 6000 q7 x2 0 0))
set_option maxHeartbeats 1000000 in
set_option maxRecDepth 100000 in
theorem mX8_copied (l : Launch) (dC : Nat → ClassId) (dI : Nat → Nat → Nat) (cyI cyO : ClassId) (m0 m1 m2 m3 m4 m5 m6 : Nat) (state : Nat → Int32) (history : Nat → Int32) (recorded : Int32) (slots : Nat → Int32) (isSaved : Nat → Int32) (pad : Nat → Int32) (padLength : Int32) (opened : Nat → Int32) (pos : Int32) (letter : Int32) (first : Int32) (second : Int32) (x1 : Int32) (x2 : Int32) (sz : Nat) (res : Int32 × (Nat → Int32)) (h : fX8_copied state x1 x2 = some res) : Met l yX8_copied (wsG yX8_copied cX8_copied 5 (some .int)) ({ frames := 1, cells := 0, slots := 0, locals := 23 }) (cP dC dI cyI cyO sz [.ref m0, .int x1, .int x2] (modelW cyI m0 m1 m2 m3 m4 m5 m6 state history recorded slots isSaved pad padLength opened pos letter first second)) (cI dC dI res.1 (modelW cyI m0 m1 m2 m3 m4 m5 m6 res.2 history recorded slots isSaved pad padLength opened pos letter first second) (va_A (modelW cyI m0 m1 m2 m3 m4 m5 m6 state history recorded slots isSaved pad padLength opened pos letter first second) sz)) 0 0 (va_A (modelW cyI m0 m1 m2 m3 m4 m5 m6 state history recorded slots isSaved pad padLength opened pos letter first second) sz) := by
  refine Met.ofW (cc := cX8_copied) (maxL := 5) (ret := (some .int)) (by decide) rfl ?_
  intro p e s m args below meth c s₁ B hml hv
  obtain ⟨rfl, hsz, hP, hK, hD0⟩ := hv
  have hx := B.exec
  have hb := B.bytes
  have hr := B.returns
  have hts := atoms_spec (ws := wsG yX8_copied cX8_copied 5 (some .int)) B.pre
  have hown : s.vm.findClass RX8 = some m.cls := findClass_of_methodNamed B.named
  have hlocks := B.notSynchronized
  subst hsz
  have hD := hD0.self (sz := s.heap.size)
  generalize hAe : va_A (modelW cyI m0 m1 m2 m3 m4 m5 m6 state history recorded slots isSaved pad padLength opened pos letter first second) s.heap.size = A at hD ⊢
  have hA : ∀ q : Nat, s.heap.size ≤ q → A q := fun q h => by rw [← hAe]; exact Or.inr h
  have hS : va_S A s.heap s.heap [] := va_S.rf
  have kB21 : ∀ (fuel : Nat) (state : Nat → Int32) (y2 : Int32) (y3 : Int32) (y4 : Int32), fX8_copied_b21 fuel state y2 y3 y4 = some res → ∀ (H : Heap) (locs : List Loc), va_P (dC, dI) vwCl (modelW cyI m0 m1 m2 m3 m4 m5 m6 state history recorded slots isSaved pad padLength opened pos letter first second) H → va_D A (modelW cyI m0 m1 m2 m3 m4 m5 m6 state history recorded slots isSaved pad padLength opened pos letter first second) → va_S A s.heap H locs → ∀ ls : Array Slot, lv_has ls 5 [(0, .ref m0), (2, .int y2), (3, .int y3), (4, .int y4)] → W p l e (headSpec (wsG yX8_copied cX8_copied 5 (some .int)) ({ frames := 1, cells := 0, slots := 0, locals := 23 })).room s m (([.ref m0, .int x1, .int x2] : List Value).toArray) below meth c H locs 0 0 (MQ below (cI dC dI res.1 (modelW cyI m0 m1 m2 m3 m4 m5 m6 res.2 history recorded slots isSaved pad padLength opened pos letter first second) A) ([.ref m0, .int x1, .int x2] : List Value).toArray s 0 0 A) (F0 m 21 ls []) := by
    intro fuel
    induction fuel with
    | zero => intro state y2 y3 y4 h; rw [fX8_copied_b21] at h; cases h
    | succ fuel ih =>
      intro state y2 y3 y4 h H locs hP hD hS ls hl
      rw [fX8_copied_b21] at h
      refine lv_iload hx hb dX8_copied_21 (lv_at hl 3 rfl) ?_
      refine lv_aload_n hx hb dX8_copied_23 rfl (lv_at hl 0 rfl) ?_
      refine va_get (D := (dC, dI)) (ci := 8) (v := .ref m1) (C := RX8) (T := TX8) (N := 12) hx hb hts (fun w h9 => gb_mem (lay_X8 w h9)) hown hK.1 hP 0 rfl rfl 0 (by decide) (hts _ (gb_mem fl_X8_7)) (fun _ h9 => h9) rfl dX8_copied_24 ?_
      refine lv_iconst (v := 3) hx hb dX8_copied_27 (by decide) ?_
      obtain ⟨ni1, h⟩ := ifn h
      refine va_iald hx hb hK.1 hP 1 0 rfl rfl ni1 dX8_copied_28 ?_
      refine lv_icmp_ge (tgt := 52) hx hb dX8_copied_29 (by decide) (fun c2 => ?_) (fun c2 => ?_)
      · have h := (if_pos c2).symm.trans h
        refine lv_iload_n hx hb dX8_copied_52 rfl (lv_at hl 2 rfl) ?_
        obtain rfl := Option.some.inj h
        exact e_i hx hb hr hlocks hP hS dX8_copied_53
      · have h := (if_neg c2).symm.trans h
        refine lv_iload_n hx hb dX8_copied_32 rfl (lv_at hl 2 rfl) ?_
        refine lv_aload_n hx hb dX8_copied_33 rfl (lv_at hl 0 rfl) ?_
        refine lv_iload hx hb dX8_copied_34 (lv_at hl 3 rfl) ?_
        refine lv_iconst (v := 5) hx hb dX8_copied_36 (by decide) ?_
        obtain ⟨q3, e4, h⟩ := ob h
        refine fr_ir (M := (modelW cyI m0 m1 m2 m3 m4 m5 m6 state history recorded slots isSaved pad padLength opened pos letter first second)) (va_runV (As := [.int y4, .int 5]) (rest := [.int y3]) ⟨hx, hb, hml, hown, hts⟩ (mX8_wrapPart l dC dI cyI cyO m0 m1 m2 m3 m4 m5 m6 state history recorded slots isSaved pad padLength opened pos letter first second y4 5 _ q3 e4) (cwV 2 hts (gV ml_X8_81 im_X8_wrapPart se_X8_wrapPart in_X8 co_X8_wrapPart) rfl rfl rfl (by decide +kernel) ⟨Nat.le_of_ble_eq_true rfl, Nat.le_of_ble_eq_true rfl⟩) (cP_V hK hP hD [0, 1, 2, 3, 4, 5, 6] rfl rfl 0 rfl rfl) rfl rfl hl.1 rfl (lv_room (Nat.le_of_ble_eq_true rfl)) dX8_copied_37 ⟨Nat.zero_le _, Nat.zero_le _⟩) hP hD hS hA [0, 1, 2, 3, 4, 5, 6] rfl (fun H locs hP hS => ?_)
        refine lv_iload_n hx hb dX8_copied_40 rfl (lv_at hl 1 rfl) ?_
        refine lv_ishr hx hb dX8_copied_41 ?_
        refine lv_iconst (v := 1) hx hb dX8_copied_42 (by decide) ?_
        refine lv_iand hx hb dX8_copied_43 ?_
        refine lv_iadd hx hb dX8_copied_44 ?_
        refine lv_istore_n (lv' := [(3, .int (y3 + ((q3 >>> (y2 &&& 31)) &&& 1))), (0, .ref m0), (2, .int y2), (4, .int y4)]) hx hb dX8_copied_45 rfl hl (by decide) rfl (fun ls hl => ?_)
        refine lv_iinc (v := (y4 + 1)) (lv' := [(4, .int (y4 + 1)), (3, .int (y3 + ((q3 >>> (y2 &&& 31)) &&& 1))), (0, .ref m0), (2, .int y2)]) hx hb dX8_copied_46 hl (k := 3) rfl rfl (by decide) rfl (fun ls hl => ?_)
        refine lv_goto (tgt := 21) hx hb dX8_copied_49 (by decide) ?_
        exact ih state y2 (y3 + ((q3 >>> (y2 &&& 31)) &&& 1)) (y4 + 1) h _ _ hP hD hS ls (lv_sub hl [2, 3, 1, 0] rfl)
  have hl := lv_entry ([.ref m0, .int x1, .int x2]) (n := 5) (Nat.le_of_ble_eq_true rfl)
  rw [lg_entry_eq]
  generalize (lg_sl ([.ref m0, .int x1, .int x2]) ++ List.replicate (5 - (lg_sl ([.ref m0, .int x1, .int x2])).length) Slot.unset).toArray = ls at hl ⊢
  have hl : lv_has ls 5 [(0, .ref m0), (1, .int x1), (2, .int x2)] := hl
  unfold fX8_copied at h
  refine lv_aload_n hx hb dX8_copied_0 rfl (lv_at hl 0 rfl) ?_
  refine lv_iload_n hx hb dX8_copied_1 rfl (lv_at hl 1 rfl) ?_
  refine lv_iconst (v := 5) hx hb dX8_copied_2 (by decide) ?_
  refine lv_aload_n hx hb dX8_copied_3 rfl (lv_at hl 0 rfl) ?_
  refine lv_iload_n hx hb dX8_copied_4 rfl (lv_at hl 1 rfl) ?_
  refine lv_iconst (v := 5) hx hb dX8_copied_5 (by decide) ?_
  obtain ⟨q5, e6, h⟩ := ob h
  refine fr_ir (M := (modelW cyI m0 m1 m2 m3 m4 m5 m6 state history recorded slots isSaved pad padLength opened pos letter first second)) (va_runV (As := [.int x1, .int 5]) (rest := [.int 5, .int x1, .ref m0]) ⟨hx, hb, hml, hown, hts⟩ (mX8_wrapPart l dC dI cyI cyO m0 m1 m2 m3 m4 m5 m6 state history recorded slots isSaved pad padLength opened pos letter first second x1 5 _ q5 e6) (cwV 2 hts (gV ml_X8_81 im_X8_wrapPart se_X8_wrapPart in_X8 co_X8_wrapPart) rfl rfl rfl (by decide +kernel) ⟨Nat.le_of_ble_eq_true rfl, Nat.le_of_ble_eq_true rfl⟩) (cP_V hK hP hD [0, 1, 2, 3, 4, 5, 6] rfl rfl 0 rfl rfl) rfl rfl hl.1 rfl (lv_room (Nat.le_of_ble_eq_true rfl)) dX8_copied_6 ⟨Nat.zero_le _, Nat.zero_le _⟩) hP hD hS hA [0, 1, 2, 3, 4, 5, 6] rfl (fun H locs hP hS => ?_)
  refine lv_iconst (v := 1) hx hb dX8_copied_9 (by decide) ?_
  refine lv_iload_n hx hb dX8_copied_10 rfl (lv_at hl 2 rfl) ?_
  refine lv_ishl hx hb dX8_copied_11 ?_
  refine lv_ior hx hb dX8_copied_12 ?_
  obtain ⟨q7, e8, h⟩ := ob h
  refine fr_v (M := (modelW cyI m0 m1 m2 m3 m4 m5 m6 state history recorded slots isSaved pad padLength opened pos letter first second)) (M' := (modelW cyI m0 m1 m2 m3 m4 m5 m6 q7 history recorded slots isSaved pad padLength opened pos letter first second)) (L' := (modelW cyI m0 m1 m2 m3 m4 m5 m6 q7 history recorded slots isSaved pad padLength opened pos letter first second)) (va_runV (As := [.int x1, .int 5, .int (q5 ||| (1 <<< (x2 &&& 31)))]) (rest := []) ⟨hx, hb, hml, hown, hts⟩ (mX8_setWrap l dC dI cyI cyO m0 m1 m2 m3 m4 m5 m6 state history recorded slots isSaved pad padLength opened pos letter first second x1 5 (q5 ||| (1 <<< (x2 &&& 31))) _ q7 e8) (cwV 3 hts (gV ml_X8_64 im_X8_setWrap se_X8_setWrap in_X8 co_X8_setWrap) rfl rfl rfl (by decide +kernel) ⟨Nat.le_of_ble_eq_true rfl, Nat.le_of_ble_eq_true rfl⟩) (cP_V hK hP hD [0, 1, 2, 3, 4, 5, 6] rfl rfl 0 rfl rfl) rfl rfl hl.1 rfl (lv_room (Nat.le_of_ble_eq_true rfl)) dX8_copied_13 ⟨Nat.zero_le _, Nat.zero_le _⟩) hP hD hS hA [0, 1, 2, 3, 4, 5, 6] rfl [(true, 0), (true, 1), (true, 2), (true, 3), (true, 4), (true, 5), (true, 6)] rfl rfl rfl (fun H locs hP hD hS => ?_)
  refine lv_iconst (v := 0) hx hb dX8_copied_16 (by decide) ?_
  refine lv_istore_n (lv' := [(3, .int 0), (0, .ref m0), (1, .int x1), (2, .int x2)]) hx hb dX8_copied_17 rfl hl (by decide) rfl (fun ls hl => ?_)
  refine lv_iconst (v := 0) hx hb dX8_copied_18 (by decide) ?_
  refine lv_istore (lv' := [(4, .int 0), (3, .int 0), (0, .ref m0), (1, .int x1), (2, .int x2)]) hx hb dX8_copied_19 hl (by decide) rfl (fun ls hl => ?_)
  exact kB21 6000 q7 x2 0 0 h _ _ hP hD hS ls (lv_sub hl [2, 4, 1, 0] rfl)

noncomputable def fX8_copy (state : Nat → Int32) (history : Nat → Int32) (recorded : Int32) (x1 : Int32) (x2 : Int32) : Option (Int32 × (Nat → Int32) × (Nat → Int32) × Int32) :=
  ((fX8_whyNoCopy state x1 x2).bind fun q1 => (if 0 ≤ q1 then ((fX8_record state history recorded).bind fun q4 => ((fX8_copied state x1 x2).bind fun q6 => (some (q6.1, q6.2, q4.1, q4.2)))) else (some (q1, state, history, recorded))))
set_option maxHeartbeats 1000000 in
set_option maxRecDepth 100000 in
theorem mX8_copy (l : Launch) (dC : Nat → ClassId) (dI : Nat → Nat → Nat) (cyI cyO : ClassId) (m0 m1 m2 m3 m4 m5 m6 : Nat) (state : Nat → Int32) (history : Nat → Int32) (recorded : Int32) (slots : Nat → Int32) (isSaved : Nat → Int32) (pad : Nat → Int32) (padLength : Int32) (opened : Nat → Int32) (pos : Int32) (letter : Int32) (first : Int32) (second : Int32) (x1 : Int32) (x2 : Int32) (sz : Nat) (res : Int32 × (Nat → Int32) × (Nat → Int32) × Int32) (h : fX8_copy state history recorded x1 x2 = some res) : Met l yX8_copy (wsG yX8_copy cX8_copy 4 (some .int)) ({ frames := 2, cells := 0, slots := 0, locals := 47 }) (cP dC dI cyI cyO sz [.ref m0, .int x1, .int x2] (modelW cyI m0 m1 m2 m3 m4 m5 m6 state history recorded slots isSaved pad padLength opened pos letter first second)) (cI dC dI res.1 (modelW cyI m0 m1 m2 m3 m4 m5 m6 res.2.1 res.2.2.1 res.2.2.2 slots isSaved pad padLength opened pos letter first second) (va_A (modelW cyI m0 m1 m2 m3 m4 m5 m6 state history recorded slots isSaved pad padLength opened pos letter first second) sz)) 0 0 (va_A (modelW cyI m0 m1 m2 m3 m4 m5 m6 state history recorded slots isSaved pad padLength opened pos letter first second) sz) := by
  refine Met.ofW (cc := cX8_copy) (maxL := 4) (ret := (some .int)) (by decide) rfl ?_
  intro p e s m args below meth c s₁ B hml hv
  obtain ⟨rfl, hsz, hP, hK, hD0⟩ := hv
  have hx := B.exec
  have hb := B.bytes
  have hr := B.returns
  have hts := atoms_spec (ws := wsG yX8_copy cX8_copy 4 (some .int)) B.pre
  have hown : s.vm.findClass RX8 = some m.cls := findClass_of_methodNamed B.named
  have hlocks := B.notSynchronized
  subst hsz
  have hD := hD0.self (sz := s.heap.size)
  generalize hAe : va_A (modelW cyI m0 m1 m2 m3 m4 m5 m6 state history recorded slots isSaved pad padLength opened pos letter first second) s.heap.size = A at hD ⊢
  have hA : ∀ q : Nat, s.heap.size ≤ q → A q := fun q h => by rw [← hAe]; exact Or.inr h
  have hS : va_S A s.heap s.heap [] := va_S.rf
  have hl := lv_entry ([.ref m0, .int x1, .int x2]) (n := 4) (Nat.le_of_ble_eq_true rfl)
  rw [lg_entry_eq]
  generalize (lg_sl ([.ref m0, .int x1, .int x2]) ++ List.replicate (4 - (lg_sl ([.ref m0, .int x1, .int x2])).length) Slot.unset).toArray = ls at hl ⊢
  have hl : lv_has ls 4 [(0, .ref m0), (1, .int x1), (2, .int x2)] := hl
  unfold fX8_copy at h
  refine lv_aload_n hx hb dX8_copy_0 rfl (lv_at hl 0 rfl) ?_
  refine lv_iload_n hx hb dX8_copy_1 rfl (lv_at hl 1 rfl) ?_
  refine lv_iload_n hx hb dX8_copy_2 rfl (lv_at hl 2 rfl) ?_
  obtain ⟨q1, e2, h⟩ := ob h
  refine fr_ir (M := (modelW cyI m0 m1 m2 m3 m4 m5 m6 state history recorded slots isSaved pad padLength opened pos letter first second)) (va_runV (As := [.int x1, .int x2]) (rest := []) ⟨hx, hb, hml, hown, hts⟩ (mX8_whyNoCopy l dC dI cyI cyO m0 m1 m2 m3 m4 m5 m6 state history recorded slots isSaved pad padLength opened pos letter first second x1 x2 _ q1 e2) (cwV 2 hts (gV ml_X8_126 im_X8_whyNoCopy se_X8_whyNoCopy in_X8 co_X8_whyNoCopy) rfl rfl rfl (by decide +kernel) ⟨Nat.le_of_ble_eq_true rfl, Nat.le_of_ble_eq_true rfl⟩) (cP_V hK hP hD [0, 1, 2, 3, 4, 5, 6] rfl rfl 0 rfl rfl) rfl rfl hl.1 rfl (lv_room (Nat.le_of_ble_eq_true rfl)) dX8_copy_3 ⟨Nat.zero_le _, Nat.zero_le _⟩) hP hD hS hA [0, 1, 2, 3, 4, 5, 6] rfl (fun H locs hP hS => ?_)
  refine lv_istore_n (lv' := [(3, .int q1), (0, .ref m0), (1, .int x1), (2, .int x2)]) hx hb dX8_copy_6 rfl hl (by decide) rfl (fun ls hl => ?_)
  refine lv_iload_n hx hb dX8_copy_7 rfl (lv_at hl 0 rfl) ?_
  refine lv_if_ge (tgt := 13) hx hb dX8_copy_8 (by decide) (fun c3 => ?_) (fun c3 => ?_)
  · have h := (if_pos c3).symm.trans h
    refine lv_aload_n hx hb dX8_copy_13 rfl (lv_at hl 1 rfl) ?_
    obtain ⟨q4, e5, h⟩ := ob h
    refine fr_v (M := (modelW cyI m0 m1 m2 m3 m4 m5 m6 state history recorded slots isSaved pad padLength opened pos letter first second)) (M' := (modelW cyI m0 m1 m2 m3 m4 m5 m6 state q4.1 q4.2 slots isSaved pad padLength opened pos letter first second)) (L' := (modelW cyI m0 m1 m2 m3 m4 m5 m6 state q4.1 q4.2 slots isSaved pad padLength opened pos letter first second)) (va_runV (As := []) (rest := []) ⟨hx, hb, hml, hown, hts⟩ (mX8_record l dC dI cyI cyO m0 m1 m2 m3 m4 m5 m6 state history recorded slots isSaved pad padLength opened pos letter first second _ q4 e5) (cwV 0 hts (gV ml_X8_102 im_X8_record se_X8_record in_X8 co_X8_record) rfl rfl rfl (by decide +kernel) ⟨Nat.le_of_ble_eq_true rfl, Nat.le_of_ble_eq_true rfl⟩) (cP_V hK hP hD [0, 1, 2, 3, 4, 5, 6] rfl rfl 0 rfl rfl) rfl rfl hl.1 rfl (lv_room (Nat.le_of_ble_eq_true rfl)) dX8_copy_14 ⟨Nat.zero_le _, Nat.zero_le _⟩) hP hD hS hA [0, 1, 2, 3, 4, 5, 6] rfl [(true, 0), (true, 1), (true, 2), (true, 3), (true, 4), (true, 5), (true, 6)] rfl rfl rfl (fun H locs hP hD hS => ?_)
    refine lv_aload_n hx hb dX8_copy_17 rfl (lv_at hl 1 rfl) ?_
    refine lv_iload_n hx hb dX8_copy_18 rfl (lv_at hl 2 rfl) ?_
    refine lv_iload_n hx hb dX8_copy_19 rfl (lv_at hl 3 rfl) ?_
    obtain ⟨q6, e7, h⟩ := ob h
    refine fr_i (M := (modelW cyI m0 m1 m2 m3 m4 m5 m6 state q4.1 q4.2 slots isSaved pad padLength opened pos letter first second)) (M' := (modelW cyI m0 m1 m2 m3 m4 m5 m6 q6.2 q4.1 q4.2 slots isSaved pad padLength opened pos letter first second)) (L' := (modelW cyI m0 m1 m2 m3 m4 m5 m6 q6.2 q4.1 q4.2 slots isSaved pad padLength opened pos letter first second)) (va_runV (As := [.int x1, .int x2]) (rest := []) ⟨hx, hb, hml, hown, hts⟩ (mX8_copied l dC dI cyI cyO m0 m1 m2 m3 m4 m5 m6 state q4.1 q4.2 slots isSaved pad padLength opened pos letter first second x1 x2 _ q6 e7) (cwV 2 hts (gV ml_X8_129 im_X8_copied se_X8_copied in_X8 co_X8_copied) rfl rfl rfl (by decide +kernel) ⟨Nat.le_of_ble_eq_true rfl, Nat.le_of_ble_eq_true rfl⟩) (cP_V hK hP hD [0, 1, 2, 3, 4, 5, 6] rfl rfl 0 rfl rfl) rfl rfl hl.1 rfl (lv_room (Nat.le_of_ble_eq_true rfl)) dX8_copy_20 ⟨Nat.zero_le _, Nat.zero_le _⟩) hP hD hS hA [0, 1, 2, 3, 4, 5, 6] rfl [(true, 0), (true, 1), (true, 2), (true, 3), (true, 4), (true, 5), (true, 6)] rfl rfl rfl (fun H locs hP hD hS => ?_)
    obtain rfl := Option.some.inj h
    exact e_i hx hb hr hlocks hP hS dX8_copy_23
  · have h := (if_neg c3).symm.trans h
    refine lv_iload_n hx hb dX8_copy_11 rfl (lv_at hl 0 rfl) ?_
    obtain rfl := Option.some.inj h
    exact e_i hx hb hr hlocks hP hS dX8_copy_12

noncomputable def fX8_renewMakes (state : Nat → Int32) (x1 : Int32) : Option (Int32) :=
  ((fX8_hangingFrom state x1).bind fun q1 => ((fX8_isRoot state x1).bind fun q3 => (if q3 = 0 then (some (q1 + 1)) else (some (q1 + 0)))))
set_option maxHeartbeats 1000000 in
set_option maxRecDepth 100000 in
theorem mX8_renewMakes (l : Launch) (dC : Nat → ClassId) (dI : Nat → Nat → Nat) (cyI cyO : ClassId) (m0 m1 m2 m3 m4 m5 m6 : Nat) (state : Nat → Int32) (history : Nat → Int32) (recorded : Int32) (slots : Nat → Int32) (isSaved : Nat → Int32) (pad : Nat → Int32) (padLength : Int32) (opened : Nat → Int32) (pos : Int32) (letter : Int32) (first : Int32) (second : Int32) (x1 : Int32) (sz : Nat) (res : Int32) (h : fX8_renewMakes state x1 = some res) : Met l yX8_renewMakes (wsG yX8_renewMakes cX8_renewMakes 2 (some .int)) ({ frames := 3, cells := 0, slots := 0, locals := 66 }) (cP dC dI cyI cyO sz [.ref m0, .int x1] (modelW cyI m0 m1 m2 m3 m4 m5 m6 state history recorded slots isSaved pad padLength opened pos letter first second)) (cI dC dI res (modelW cyI m0 m1 m2 m3 m4 m5 m6 state history recorded slots isSaved pad padLength opened pos letter first second) (va_A (modelW cyI m0 m1 m2 m3 m4 m5 m6 state history recorded slots isSaved pad padLength opened pos letter first second) sz)) 0 0 (va_A (modelW cyI m0 m1 m2 m3 m4 m5 m6 state history recorded slots isSaved pad padLength opened pos letter first second) sz) := by
  refine Met.ofW (cc := cX8_renewMakes) (maxL := 2) (ret := (some .int)) (by decide) rfl ?_
  intro p e s m args below meth c s₁ B hml hv
  obtain ⟨rfl, hsz, hP, hK, hD0⟩ := hv
  have hx := B.exec
  have hb := B.bytes
  have hr := B.returns
  have hts := atoms_spec (ws := wsG yX8_renewMakes cX8_renewMakes 2 (some .int)) B.pre
  have hown : s.vm.findClass RX8 = some m.cls := findClass_of_methodNamed B.named
  have hlocks := B.notSynchronized
  subst hsz
  have hD := hD0.self (sz := s.heap.size)
  generalize hAe : va_A (modelW cyI m0 m1 m2 m3 m4 m5 m6 state history recorded slots isSaved pad padLength opened pos letter first second) s.heap.size = A at hD ⊢
  have hA : ∀ q : Nat, s.heap.size ≤ q → A q := fun q h => by rw [← hAe]; exact Or.inr h
  have hS : va_S A s.heap s.heap [] := va_S.rf
  have hl := lv_entry ([.ref m0, .int x1]) (n := 2) (Nat.le_of_ble_eq_true rfl)
  rw [lg_entry_eq]
  generalize (lg_sl ([.ref m0, .int x1]) ++ List.replicate (2 - (lg_sl ([.ref m0, .int x1])).length) Slot.unset).toArray = ls at hl ⊢
  have hl : lv_has ls 2 [(0, .ref m0), (1, .int x1)] := hl
  unfold fX8_renewMakes at h
  refine lv_aload_n hx hb dX8_renewMakes_0 rfl (lv_at hl 0 rfl) ?_
  refine lv_iload_n hx hb dX8_renewMakes_1 rfl (lv_at hl 1 rfl) ?_
  obtain ⟨q1, e2, h⟩ := ob h
  refine fr_ir (M := (modelW cyI m0 m1 m2 m3 m4 m5 m6 state history recorded slots isSaved pad padLength opened pos letter first second)) (va_runV (As := [.int x1]) (rest := []) ⟨hx, hb, hml, hown, hts⟩ (mX8_hangingFrom l dC dI cyI cyO m0 m1 m2 m3 m4 m5 m6 state history recorded slots isSaved pad padLength opened pos letter first second x1 _ q1 e2) (cwV 1 hts (gV ml_X8_132 im_X8_hangingFrom se_X8_hangingFrom in_X8 co_X8_hangingFrom) rfl rfl rfl (by decide +kernel) ⟨Nat.le_of_ble_eq_true rfl, Nat.le_of_ble_eq_true rfl⟩) (cP_V hK hP hD [0, 1, 2, 3, 4, 5, 6] rfl rfl 0 rfl rfl) rfl rfl hl.1 rfl (lv_room (Nat.le_of_ble_eq_true rfl)) dX8_renewMakes_2 ⟨Nat.zero_le _, Nat.zero_le _⟩) hP hD hS hA [0, 1, 2, 3, 4, 5, 6] rfl (fun H locs hP hS => ?_)
  refine lv_aload_n hx hb dX8_renewMakes_5 rfl (lv_at hl 0 rfl) ?_
  refine lv_iload_n hx hb dX8_renewMakes_6 rfl (lv_at hl 1 rfl) ?_
  obtain ⟨q3, e4, h⟩ := ob h
  refine fr_ir (M := (modelW cyI m0 m1 m2 m3 m4 m5 m6 state history recorded slots isSaved pad padLength opened pos letter first second)) (va_runV (As := [.int x1]) (rest := [.int q1]) ⟨hx, hb, hml, hown, hts⟩ (mX8_isRoot l dC dI cyI cyO m0 m1 m2 m3 m4 m5 m6 state history recorded slots isSaved pad padLength opened pos letter first second x1 _ q3 e4) (cwV 1 hts (gV ml_X8_84 im_X8_isRoot se_X8_isRoot in_X8 co_X8_isRoot) rfl rfl rfl (by decide +kernel) ⟨Nat.le_of_ble_eq_true rfl, Nat.le_of_ble_eq_true rfl⟩) (cP_V hK hP hD [0, 1, 2, 3, 4, 5, 6] rfl rfl 0 rfl rfl) rfl rfl hl.1 rfl (lv_room (Nat.le_of_ble_eq_true rfl)) dX8_renewMakes_7 ⟨Nat.zero_le _, Nat.zero_le _⟩) hP hD hS hA [0, 1, 2, 3, 4, 5, 6] rfl (fun H locs hP hS => ?_)
  refine lv_if_eq (tgt := 17) hx hb dX8_renewMakes_10 (by decide) (fun c5 => ?_) (fun c5 => ?_)
  · have h := (if_pos c5).symm.trans h
    refine lv_iconst (v := 1) hx hb dX8_renewMakes_17 (by decide) ?_
    refine lv_iadd hx hb dX8_renewMakes_18 ?_
    obtain rfl := Option.some.inj h
    exact e_i hx hb hr hlocks hP hS dX8_renewMakes_19
  · have h := (if_neg c5).symm.trans h
    refine lv_iconst (v := 0) hx hb dX8_renewMakes_13 (by decide) ?_
    refine lv_goto (tgt := 18) hx hb dX8_renewMakes_14 (by decide) ?_
    refine lv_iadd hx hb dX8_renewMakes_18 ?_
    obtain rfl := Option.some.inj h
    exact e_i hx hb hr hlocks hP hS dX8_renewMakes_19
