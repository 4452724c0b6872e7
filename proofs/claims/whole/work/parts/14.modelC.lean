/-! the reference -/

noncomputable def fX8_whyNotRenewed (state : Nat → Int32) (x1 : Int32) : Option (Int32) :=
  ((fX8_isLiveKey state x1).bind fun q1 => (if q1 = 0 then (some (-1)) else (if (3 : Int32) < 0 ∨ 844 ≤ (3 : Int32).toNatClampNeg then none else ((fX8_renewMakes state x1).bind fun q5 => (if ((state (3 : Int32).toNatClampNeg) + q5) ≤ 120 then ((fX8_isRoot state x1).bind fun q8 => (if q8 = 0 then ((fX8_keyPart state x1 0).bind fun q15 => ((fX8_canClose state q15).bind fun q17 => (if q17 = 0 then (some (-5)) else ((fX8_hangingFrom state x1).bind fun q20 => (if (0 : Int32) < 0 ∨ 844 ≤ (0 : Int32).toNatClampNeg then none else (if q20 ≤ (state (0 : Int32).toNatClampNeg) then (some 0) else (some (-5)))))))) else ((fX8_hangingFrom state x1).bind fun q11 => (if (0 : Int32) < 0 ∨ 844 ≤ (0 : Int32).toNatClampNeg then none else (if q11 ≤ (state (0 : Int32).toNatClampNeg) then (some 0) else (some (-5))))))) else (some (-4)))))))
set_option maxHeartbeats 1000000 in
set_option maxRecDepth 100000 in
theorem mX8_whyNotRenewed (l : Launch) (dC : Nat → ClassId) (dI : Nat → Nat → Nat) (cyI cyO : ClassId) (m0 m1 m2 m3 m4 m5 m6 : Nat) (state : Nat → Int32) (history : Nat → Int32) (recorded : Int32) (slots : Nat → Int32) (isSaved : Nat → Int32) (pad : Nat → Int32) (padLength : Int32) (opened : Nat → Int32) (pos : Int32) (letter : Int32) (first : Int32) (second : Int32) (x1 : Int32) (sz : Nat) (res : Int32) (h : fX8_whyNotRenewed state x1 = some res) : Met l yX8_whyNotRenewed (wsG yX8_whyNotRenewed cX8_whyNotRenewed 2 (some .int)) ({ frames := 4, cells := 0, slots := 0, locals := 87 }) (cP dC dI cyI cyO sz [.ref m0, .int x1] (modelW cyI m0 m1 m2 m3 m4 m5 m6 state history recorded slots isSaved pad padLength opened pos letter first second)) (cI dC dI res (modelW cyI m0 m1 m2 m3 m4 m5 m6 state history recorded slots isSaved pad padLength opened pos letter first second) (va_A (modelW cyI m0 m1 m2 m3 m4 m5 m6 state history recorded slots isSaved pad padLength opened pos letter first second) sz)) 0 0 (va_A (modelW cyI m0 m1 m2 m3 m4 m5 m6 state history recorded slots isSaved pad padLength opened pos letter first second) sz) := by
  refine Met.ofW (cc := cX8_whyNotRenewed) (maxL := 2) (ret := (some .int)) (by decide) rfl ?_
  intro p e s m args below meth c s₁ B hml hv
  obtain ⟨rfl, hsz, hP, hK, hD0⟩ := hv
  have hx := B.exec
  have hb := B.bytes
  have hr := B.returns
  have hts := atoms_spec (ws := wsG yX8_whyNotRenewed cX8_whyNotRenewed 2 (some .int)) B.pre
  have hown : s.vm.findClass RX8 = some m.cls := findClass_of_methodNamed B.named
  have hlocks := B.notSynchronized
  subst hsz
  have hD := hD0.self (sz := s.heap.size)
  generalize hAe : va_A (modelW cyI m0 m1 m2 m3 m4 m5 m6 state history recorded slots isSaved pad padLength opened pos letter first second) s.heap.size = A at hD ⊢
  have hA : ∀ q : Nat, s.heap.size ≤ q → A q := fun q h => by rw [← hAe]; exact Or.inr h
  have hS : va_S A s.heap s.heap [] := va_S.rf
  have hl := lv_entry ([.ref m0, .int x1]) (n := 2) (Nat.le_of_ble_eq_true rfl)
  rw [lg_entry_eq]
  generalize (lg_sl ([.ref m0, .int x1]) ++ List.replicate (2 - (lg_sl ([.ref m0, .int x1])).length) Slot.unset).toArray = ls at hl ⊢
  have hl : lv_has ls 2 [(0, .ref m0), (1, .int x1)] := hl
  unfold fX8_whyNotRenewed at h
  refine lv_aload_n hx hb dX8_whyNotRenewed_0 rfl (lv_at hl 0 rfl) ?_
  refine lv_iload_n hx hb dX8_whyNotRenewed_1 rfl (lv_at hl 1 rfl) ?_
  obtain ⟨q1, e2, h⟩ := ob h
  refine fr_ir (M := (modelW cyI m0 m1 m2 m3 m4 m5 m6 state history recorded slots isSaved pad padLength opened pos letter first second)) (va_runV (As := [.int x1]) (rest := []) ⟨hx, hb, hml, hown, hts⟩ (mX8_isLiveKey l dC dI cyI cyO m0 m1 m2 m3 m4 m5 m6 state history recorded slots isSaved pad padLength opened pos letter first second x1 _ q1 e2) (cwV 1 hts (gV ml_X8_105 im_X8_isLiveKey se_X8_isLiveKey in_X8 co_X8_isLiveKey) rfl rfl rfl (by decide +kernel) ⟨Nat.le_of_ble_eq_true rfl, Nat.le_of_ble_eq_true rfl⟩) (cP_V hK hP hD [0, 1, 2, 3, 4, 5, 6] rfl rfl 0 rfl rfl) rfl rfl hl.1 rfl (lv_room (Nat.le_of_ble_eq_true rfl)) dX8_whyNotRenewed_2 ⟨Nat.zero_le _, Nat.zero_le _⟩) hP hD hS hA [0, 1, 2, 3, 4, 5, 6] rfl (fun H locs hP hS => ?_)
  refine lv_if_ne (tgt := 10) hx hb dX8_whyNotRenewed_5 (by decide) (fun c3 => ?_) (fun c3 => ?_)
  · have h := (if_neg c3).symm.trans h
    refine lv_aload_n hx hb dX8_whyNotRenewed_10 rfl (lv_at hl 0 rfl) ?_
    refine va_get (D := (dC, dI)) (ci := 8) (v := .ref m1) (C := RX8) (T := TX8) (N := 12) hx hb hts (fun w h9 => gb_mem (lay_X8 w h9)) hown hK.1 hP 0 rfl rfl 0 (by decide) (hts _ (gb_mem fl_X8_7)) (fun _ h9 => h9) rfl dX8_whyNotRenewed_11 ?_
    refine lv_iconst (v := 3) hx hb dX8_whyNotRenewed_14 (by decide) ?_
    obtain ⟨ni4, h⟩ := ifn h
    refine va_iald hx hb hK.1 hP 1 0 rfl rfl ni4 dX8_whyNotRenewed_15 ?_
    refine lv_aload_n hx hb dX8_whyNotRenewed_16 rfl (lv_at hl 0 rfl) ?_
    refine lv_iload_n hx hb dX8_whyNotRenewed_17 rfl (lv_at hl 1 rfl) ?_
    obtain ⟨q5, e6, h⟩ := ob h
    refine fr_ir (M := (modelW cyI m0 m1 m2 m3 m4 m5 m6 state history recorded slots isSaved pad padLength opened pos letter first second)) (va_runV (As := [.int x1]) (rest := [.int (state (3 : Int32).toNatClampNeg)]) ⟨hx, hb, hml, hown, hts⟩ (mX8_renewMakes l dC dI cyI cyO m0 m1 m2 m3 m4 m5 m6 state history recorded slots isSaved pad padLength opened pos letter first second x1 _ q5 e6) (cwV 1 hts (gV ml_X8_135 im_X8_renewMakes se_X8_renewMakes in_X8 co_X8_renewMakes) rfl rfl rfl (by decide +kernel) ⟨Nat.le_of_ble_eq_true rfl, Nat.le_of_ble_eq_true rfl⟩) (cP_V hK hP hD [0, 1, 2, 3, 4, 5, 6] rfl rfl 0 rfl rfl) rfl rfl hl.1 rfl (lv_room (Nat.le_of_ble_eq_true rfl)) dX8_whyNotRenewed_18 ⟨Nat.zero_le _, Nat.zero_le _⟩) hP hD hS hA [0, 1, 2, 3, 4, 5, 6] rfl (fun H locs hP hS => ?_)
    refine lv_iadd hx hb dX8_whyNotRenewed_21 ?_
    refine lv_bipush (v := 120) hx hb dX8_whyNotRenewed_22 (by decide) ?_
    refine lv_icmp_le (tgt := 30) hx hb dX8_whyNotRenewed_24 (by decide) (fun c7 => ?_) (fun c7 => ?_)
    · have h := (if_pos c7).symm.trans h
      refine lv_aload_n hx hb dX8_whyNotRenewed_30 rfl (lv_at hl 0 rfl) ?_
      refine lv_iload_n hx hb dX8_whyNotRenewed_31 rfl (lv_at hl 1 rfl) ?_
      obtain ⟨q8, e9, h⟩ := ob h
      refine fr_ir (M := (modelW cyI m0 m1 m2 m3 m4 m5 m6 state history recorded slots isSaved pad padLength opened pos letter first second)) (va_runV (As := [.int x1]) (rest := []) ⟨hx, hb, hml, hown, hts⟩ (mX8_isRoot l dC dI cyI cyO m0 m1 m2 m3 m4 m5 m6 state history recorded slots isSaved pad padLength opened pos letter first second x1 _ q8 e9) (cwV 1 hts (gV ml_X8_84 im_X8_isRoot se_X8_isRoot in_X8 co_X8_isRoot) rfl rfl rfl (by decide +kernel) ⟨Nat.le_of_ble_eq_true rfl, Nat.le_of_ble_eq_true rfl⟩) (cP_V hK hP hD [0, 1, 2, 3, 4, 5, 6] rfl rfl 0 rfl rfl) rfl rfl hl.1 rfl (lv_room (Nat.le_of_ble_eq_true rfl)) dX8_whyNotRenewed_32 ⟨Nat.zero_le _, Nat.zero_le _⟩) hP hD hS hA [0, 1, 2, 3, 4, 5, 6] rfl (fun H locs hP hS => ?_)
      refine lv_if_ne (tgt := 51) hx hb dX8_whyNotRenewed_35 (by decide) (fun c10 => ?_) (fun c10 => ?_)
      · have h := (if_neg c10).symm.trans h
        refine lv_aload_n hx hb dX8_whyNotRenewed_51 rfl (lv_at hl 0 rfl) ?_
        refine lv_iload_n hx hb dX8_whyNotRenewed_52 rfl (lv_at hl 1 rfl) ?_
        obtain ⟨q11, e12, h⟩ := ob h
        refine fr_ir (M := (modelW cyI m0 m1 m2 m3 m4 m5 m6 state history recorded slots isSaved pad padLength opened pos letter first second)) (va_runV (As := [.int x1]) (rest := []) ⟨hx, hb, hml, hown, hts⟩ (mX8_hangingFrom l dC dI cyI cyO m0 m1 m2 m3 m4 m5 m6 state history recorded slots isSaved pad padLength opened pos letter first second x1 _ q11 e12) (cwV 1 hts (gV ml_X8_132 im_X8_hangingFrom se_X8_hangingFrom in_X8 co_X8_hangingFrom) rfl rfl rfl (by decide +kernel) ⟨Nat.le_of_ble_eq_true rfl, Nat.le_of_ble_eq_true rfl⟩) (cP_V hK hP hD [0, 1, 2, 3, 4, 5, 6] rfl rfl 0 rfl rfl) rfl rfl hl.1 rfl (lv_room (Nat.le_of_ble_eq_true rfl)) dX8_whyNotRenewed_53 ⟨Nat.zero_le _, Nat.zero_le _⟩) hP hD hS hA [0, 1, 2, 3, 4, 5, 6] rfl (fun H locs hP hS => ?_)
        refine lv_aload_n hx hb dX8_whyNotRenewed_56 rfl (lv_at hl 0 rfl) ?_
        refine va_get (D := (dC, dI)) (ci := 8) (v := .ref m1) (C := RX8) (T := TX8) (N := 12) hx hb hts (fun w h9 => gb_mem (lay_X8 w h9)) hown hK.1 hP 0 rfl rfl 0 (by decide) (hts _ (gb_mem fl_X8_7)) (fun _ h9 => h9) rfl dX8_whyNotRenewed_57 ?_
        refine lv_iconst (v := 0) hx hb dX8_whyNotRenewed_60 (by decide) ?_
        obtain ⟨ni13, h⟩ := ifn h
        refine va_iald hx hb hK.1 hP 1 0 rfl rfl ni13 dX8_whyNotRenewed_61 ?_
        refine lv_icmp_le (tgt := 70) hx hb dX8_whyNotRenewed_62 (by decide) (fun c14 => ?_) (fun c14 => ?_)
        · have h := (if_pos c14).symm.trans h
          refine lv_iconst (v := 0) hx hb dX8_whyNotRenewed_70 (by decide) ?_
          obtain rfl := Option.some.inj h
          exact e_i hx hb hr hlocks hP hS dX8_whyNotRenewed_71
        · have h := (if_neg c14).symm.trans h
          refine lv_bipush (v := (-5)) hx hb dX8_whyNotRenewed_65 (by decide) ?_
          refine lv_goto (tgt := 71) hx hb dX8_whyNotRenewed_67 (by decide) ?_
          obtain rfl := Option.some.inj h
          exact e_i hx hb hr hlocks hP hS dX8_whyNotRenewed_71
      · have h := (if_pos c10).symm.trans h
        refine lv_aload_n hx hb dX8_whyNotRenewed_38 rfl (lv_at hl 0 rfl) ?_
        refine lv_aload_n hx hb dX8_whyNotRenewed_39 rfl (lv_at hl 0 rfl) ?_
        refine lv_iload_n hx hb dX8_whyNotRenewed_40 rfl (lv_at hl 1 rfl) ?_
        refine lv_iconst (v := 0) hx hb dX8_whyNotRenewed_41 (by decide) ?_
        obtain ⟨q15, e16, h⟩ := ob h
        refine fr_ir (M := (modelW cyI m0 m1 m2 m3 m4 m5 m6 state history recorded slots isSaved pad padLength opened pos letter first second)) (va_runV (As := [.int x1, .int 0]) (rest := [.ref m0]) ⟨hx, hb, hml, hown, hts⟩ (mX8_keyPart l dC dI cyI cyO m0 m1 m2 m3 m4 m5 m6 state history recorded slots isSaved pad padLength opened pos letter first second x1 0 _ q15 e16) (cwV 2 hts (gV ml_X8_44 im_X8_keyPart se_X8_keyPart in_X8 co_X8_keyPart) rfl rfl rfl (by decide +kernel) ⟨Nat.le_of_ble_eq_true rfl, Nat.le_of_ble_eq_true rfl⟩) (cP_V hK hP hD [0, 1, 2, 3, 4, 5, 6] rfl rfl 0 rfl rfl) rfl rfl hl.1 rfl (lv_room (Nat.le_of_ble_eq_true rfl)) dX8_whyNotRenewed_42 ⟨Nat.zero_le _, Nat.zero_le _⟩) hP hD hS hA [0, 1, 2, 3, 4, 5, 6] rfl (fun H locs hP hS => ?_)
        obtain ⟨q17, e18, h⟩ := ob h
        refine fr_ir (M := (modelW cyI m0 m1 m2 m3 m4 m5 m6 state history recorded slots isSaved pad padLength opened pos letter first second)) (va_runV (As := [.int q15]) (rest := []) ⟨hx, hb, hml, hown, hts⟩ (mX8_canClose l dC dI cyI cyO m0 m1 m2 m3 m4 m5 m6 state history recorded slots isSaved pad padLength opened pos letter first second q15 _ q17 e18) (cwV 1 hts (gV ml_X8_108 im_X8_canClose se_X8_canClose in_X8 co_X8_canClose) rfl rfl rfl (by decide +kernel) ⟨Nat.le_of_ble_eq_true rfl, Nat.le_of_ble_eq_true rfl⟩) (cP_V hK hP hD [0, 1, 2, 3, 4, 5, 6] rfl rfl 0 rfl rfl) rfl rfl hl.1 rfl (lv_room (Nat.le_of_ble_eq_true rfl)) dX8_whyNotRenewed_45 ⟨Nat.zero_le _, Nat.zero_le _⟩) hP hD hS hA [0, 1, 2, 3, 4, 5, 6] rfl (fun H locs hP hS => ?_)
        refine lv_if_eq (tgt := 65) hx hb dX8_whyNotRenewed_48 (by decide) (fun c19 => ?_) (fun c19 => ?_)
        · have h := (if_pos c19).symm.trans h
          refine lv_bipush (v := (-5)) hx hb dX8_whyNotRenewed_65 (by decide) ?_
          refine lv_goto (tgt := 71) hx hb dX8_whyNotRenewed_67 (by decide) ?_
          obtain rfl := Option.some.inj h
          exact e_i hx hb hr hlocks hP hS dX8_whyNotRenewed_71
        · have h := (if_neg c19).symm.trans h
          refine lv_aload_n hx hb dX8_whyNotRenewed_51 rfl (lv_at hl 0 rfl) ?_
          refine lv_iload_n hx hb dX8_whyNotRenewed_52 rfl (lv_at hl 1 rfl) ?_
          obtain ⟨q20, e21, h⟩ := ob h
          refine fr_ir (M := (modelW cyI m0 m1 m2 m3 m4 m5 m6 state history recorded slots isSaved pad padLength opened pos letter first second)) (va_runV (As := [.int x1]) (rest := []) ⟨hx, hb, hml, hown, hts⟩ (mX8_hangingFrom l dC dI cyI cyO m0 m1 m2 m3 m4 m5 m6 state history recorded slots isSaved pad padLength opened pos letter first second x1 _ q20 e21) (cwV 1 hts (gV ml_X8_132 im_X8_hangingFrom se_X8_hangingFrom in_X8 co_X8_hangingFrom) rfl rfl rfl (by decide +kernel) ⟨Nat.le_of_ble_eq_true rfl, Nat.le_of_ble_eq_true rfl⟩) (cP_V hK hP hD [0, 1, 2, 3, 4, 5, 6] rfl rfl 0 rfl rfl) rfl rfl hl.1 rfl (lv_room (Nat.le_of_ble_eq_true rfl)) dX8_whyNotRenewed_53 ⟨Nat.zero_le _, Nat.zero_le _⟩) hP hD hS hA [0, 1, 2, 3, 4, 5, 6] rfl (fun H locs hP hS => ?_)
          refine lv_aload_n hx hb dX8_whyNotRenewed_56 rfl (lv_at hl 0 rfl) ?_
          refine va_get (D := (dC, dI)) (ci := 8) (v := .ref m1) (C := RX8) (T := TX8) (N := 12) hx hb hts (fun w h9 => gb_mem (lay_X8 w h9)) hown hK.1 hP 0 rfl rfl 0 (by decide) (hts _ (gb_mem fl_X8_7)) (fun _ h9 => h9) rfl dX8_whyNotRenewed_57 ?_
          refine lv_iconst (v := 0) hx hb dX8_whyNotRenewed_60 (by decide) ?_
          obtain ⟨ni22, h⟩ := ifn h
          refine va_iald hx hb hK.1 hP 1 0 rfl rfl ni22 dX8_whyNotRenewed_61 ?_
          refine lv_icmp_le (tgt := 70) hx hb dX8_whyNotRenewed_62 (by decide) (fun c23 => ?_) (fun c23 => ?_)
          · have h := (if_pos c23).symm.trans h
            refine lv_iconst (v := 0) hx hb dX8_whyNotRenewed_70 (by decide) ?_
            obtain rfl := Option.some.inj h
            exact e_i hx hb hr hlocks hP hS dX8_whyNotRenewed_71
          · have h := (if_neg c23).symm.trans h
            refine lv_bipush (v := (-5)) hx hb dX8_whyNotRenewed_65 (by decide) ?_
            refine lv_goto (tgt := 71) hx hb dX8_whyNotRenewed_67 (by decide) ?_
            obtain rfl := Option.some.inj h
            exact e_i hx hb hr hlocks hP hS dX8_whyNotRenewed_71
    · have h := (if_neg c7).symm.trans h
      refine lv_bipush (v := (-4)) hx hb dX8_whyNotRenewed_27 (by decide) ?_
      obtain rfl := Option.some.inj h
      exact e_i hx hb hr hlocks hP hS dX8_whyNotRenewed_29
  · have h := (if_pos c3).symm.trans h
    refine lv_iconst (v := (-1)) hx hb dX8_whyNotRenewed_8 (by decide) ?_
    obtain rfl := Option.some.inj h
    exact e_i hx hb hr hlocks hP hS dX8_whyNotRenewed_9

noncomputable def fX8_makesAnew (state : Nat → Int32) (x1 : Int32) : Option ((Nat → Int32)) :=
  ((fX8_keyPart state x1 2).bind fun q1 => ((fX8_setKey state x1 2 (q1 + 1)).bind fun q3 => ((fX8_setKey q3 x1 3 0).bind fun q5 => (some q5))))
set_option maxHeartbeats 1000000 in
set_option maxRecDepth 100000 in
theorem mX8_makesAnew (l : Launch) (dC : Nat → ClassId) (dI : Nat → Nat → Nat) (cyI cyO : ClassId) (m0 m1 m2 m3 m4 m5 m6 : Nat) (state : Nat → Int32) (history : Nat → Int32) (recorded : Int32) (slots : Nat → Int32) (isSaved : Nat → Int32) (pad : Nat → Int32) (padLength : Int32) (opened : Nat → Int32) (pos : Int32) (letter : Int32) (first : Int32) (second : Int32) (x1 : Int32) (sz : Nat) (res : (Nat → Int32)) (h : fX8_makesAnew state x1 = some res) : Met l yX8_makesAnew (wsG yX8_makesAnew cX8_makesAnew 2 none) ({ frames := 1, cells := 0, slots := 0, locals := 23 }) (cP dC dI cyI cyO sz [.ref m0, .int x1] (modelW cyI m0 m1 m2 m3 m4 m5 m6 state history recorded slots isSaved pad padLength opened pos letter first second)) (cV dC dI (modelW cyI m0 m1 m2 m3 m4 m5 m6 res history recorded slots isSaved pad padLength opened pos letter first second) (va_A (modelW cyI m0 m1 m2 m3 m4 m5 m6 state history recorded slots isSaved pad padLength opened pos letter first second) sz)) 0 0 (va_A (modelW cyI m0 m1 m2 m3 m4 m5 m6 state history recorded slots isSaved pad padLength opened pos letter first second) sz) := by
  refine Met.ofW (cc := cX8_makesAnew) (maxL := 2) (ret := none) (by decide) rfl ?_
  intro p e s m args below meth c s₁ B hml hv
  obtain ⟨rfl, hsz, hP, hK, hD0⟩ := hv
  have hx := B.exec
  have hb := B.bytes
  have hr := B.returns
  have hts := atoms_spec (ws := wsG yX8_makesAnew cX8_makesAnew 2 none) B.pre
  have hown : s.vm.findClass RX8 = some m.cls := findClass_of_methodNamed B.named
  have hlocks := B.notSynchronized
  subst hsz
  have hD := hD0.self (sz := s.heap.size)
  generalize hAe : va_A (modelW cyI m0 m1 m2 m3 m4 m5 m6 state history recorded slots isSaved pad padLength opened pos letter first second) s.heap.size = A at hD ⊢
  have hA : ∀ q : Nat, s.heap.size ≤ q → A q := fun q h => by rw [← hAe]; exact Or.inr h
  have hS : va_S A s.heap s.heap [] := va_S.rf
  have hl := lv_entry ([.ref m0, .int x1]) (n := 2) (Nat.le_of_ble_eq_true rfl)
  rw [lg_entry_eq]
  generalize (lg_sl ([.ref m0, .int x1]) ++ List.replicate (2 - (lg_sl ([.ref m0, .int x1])).length) Slot.unset).toArray = ls at hl ⊢
  have hl : lv_has ls 2 [(0, .ref m0), (1, .int x1)] := hl
  unfold fX8_makesAnew at h
  refine lv_aload_n hx hb dX8_makesAnew_0 rfl (lv_at hl 0 rfl) ?_
  refine lv_iload_n hx hb dX8_makesAnew_1 rfl (lv_at hl 1 rfl) ?_
  refine lv_iconst (v := 2) hx hb dX8_makesAnew_2 (by decide) ?_
  refine lv_aload_n hx hb dX8_makesAnew_3 rfl (lv_at hl 0 rfl) ?_
  refine lv_iload_n hx hb dX8_makesAnew_4 rfl (lv_at hl 1 rfl) ?_
  refine lv_iconst (v := 2) hx hb dX8_makesAnew_5 (by decide) ?_
  obtain ⟨q1, e2, h⟩ := ob h
  refine fr_ir (M := (modelW cyI m0 m1 m2 m3 m4 m5 m6 state history recorded slots isSaved pad padLength opened pos letter first second)) (va_runV (As := [.int x1, .int 2]) (rest := [.int 2, .int x1, .ref m0]) ⟨hx, hb, hml, hown, hts⟩ (mX8_keyPart l dC dI cyI cyO m0 m1 m2 m3 m4 m5 m6 state history recorded slots isSaved pad padLength opened pos letter first second x1 2 _ q1 e2) (cwV 2 hts (gV ml_X8_44 im_X8_keyPart se_X8_keyPart in_X8 co_X8_keyPart) rfl rfl rfl (by decide +kernel) ⟨Nat.le_of_ble_eq_true rfl, Nat.le_of_ble_eq_true rfl⟩) (cP_V hK hP hD [0, 1, 2, 3, 4, 5, 6] rfl rfl 0 rfl rfl) rfl rfl hl.1 rfl (lv_room (Nat.le_of_ble_eq_true rfl)) dX8_makesAnew_6 ⟨Nat.zero_le _, Nat.zero_le _⟩) hP hD hS hA [0, 1, 2, 3, 4, 5, 6] rfl (fun H locs hP hS => ?_)
  refine lv_iconst (v := 1) hx hb dX8_makesAnew_9 (by decide) ?_
  refine lv_iadd hx hb dX8_makesAnew_10 ?_
  obtain ⟨q3, e4, h⟩ := ob h
  refine fr_v (M := (modelW cyI m0 m1 m2 m3 m4 m5 m6 state history recorded slots isSaved pad padLength opened pos letter first second)) (M' := (modelW cyI m0 m1 m2 m3 m4 m5 m6 q3 history recorded slots isSaved pad padLength opened pos letter first second)) (L' := (modelW cyI m0 m1 m2 m3 m4 m5 m6 q3 history recorded slots isSaved pad padLength opened pos letter first second)) (va_runV (As := [.int x1, .int 2, .int (q1 + 1)]) (rest := []) ⟨hx, hb, hml, hown, hts⟩ (mX8_setKey l dC dI cyI cyO m0 m1 m2 m3 m4 m5 m6 state history recorded slots isSaved pad padLength opened pos letter first second x1 2 (q1 + 1) _ q3 e4) (cwV 3 hts (gV ml_X8_68 im_X8_setKey se_X8_setKey in_X8 co_X8_setKey) rfl rfl rfl (by decide +kernel) ⟨Nat.le_of_ble_eq_true rfl, Nat.le_of_ble_eq_true rfl⟩) (cP_V hK hP hD [0, 1, 2, 3, 4, 5, 6] rfl rfl 0 rfl rfl) rfl rfl hl.1 rfl (lv_room (Nat.le_of_ble_eq_true rfl)) dX8_makesAnew_11 ⟨Nat.zero_le _, Nat.zero_le _⟩) hP hD hS hA [0, 1, 2, 3, 4, 5, 6] rfl [(true, 0), (true, 1), (true, 2), (true, 3), (true, 4), (true, 5), (true, 6)] rfl rfl rfl (fun H locs hP hD hS => ?_)
  refine lv_aload_n hx hb dX8_makesAnew_14 rfl (lv_at hl 0 rfl) ?_
  refine lv_iload_n hx hb dX8_makesAnew_15 rfl (lv_at hl 1 rfl) ?_
  refine lv_iconst (v := 3) hx hb dX8_makesAnew_16 (by decide) ?_
  refine lv_iconst (v := 0) hx hb dX8_makesAnew_17 (by decide) ?_
  obtain ⟨q5, e6, h⟩ := ob h
  refine fr_v (M := (modelW cyI m0 m1 m2 m3 m4 m5 m6 q3 history recorded slots isSaved pad padLength opened pos letter first second)) (M' := (modelW cyI m0 m1 m2 m3 m4 m5 m6 q5 history recorded slots isSaved pad padLength opened pos letter first second)) (L' := (modelW cyI m0 m1 m2 m3 m4 m5 m6 q5 history recorded slots isSaved pad padLength opened pos letter first second)) (va_runV (As := [.int x1, .int 3, .int 0]) (rest := []) ⟨hx, hb, hml, hown, hts⟩ (mX8_setKey l dC dI cyI cyO m0 m1 m2 m3 m4 m5 m6 q3 history recorded slots isSaved pad padLength opened pos letter first second x1 3 0 _ q5 e6) (cwV 3 hts (gV ml_X8_68 im_X8_setKey se_X8_setKey in_X8 co_X8_setKey) rfl rfl rfl (by decide +kernel) ⟨Nat.le_of_ble_eq_true rfl, Nat.le_of_ble_eq_true rfl⟩) (cP_V hK hP hD [0, 1, 2, 3, 4, 5, 6] rfl rfl 0 rfl rfl) rfl rfl hl.1 rfl (lv_room (Nat.le_of_ble_eq_true rfl)) dX8_makesAnew_18 ⟨Nat.zero_le _, Nat.zero_le _⟩) hP hD hS hA [0, 1, 2, 3, 4, 5, 6] rfl [(true, 0), (true, 1), (true, 2), (true, 3), (true, 4), (true, 5), (true, 6)] rfl rfl rfl (fun H locs hP hD hS => ?_)
  obtain rfl := Option.some.inj h
  exact e_v hx hb hr hlocks hP hS dX8_makesAnew_21

noncomputable def fX8_renewed (state : Nat → Int32) (x1 : Int32) : Option (Int32 × (Nat → Int32)) :=
  ((fX8_renewMakes state x1).bind fun q1 => ((fX8_makesAnew state x1).bind fun q3 => ((fX8_burns q3).bind fun q5 => ((fX8_isRoot q5 x1).bind fun q7 => (if q7 = 0 then ((fX8_wrapKey q5 x1).bind fun q12 => ((fX8_wrapAllUnder q12 x1).bind fun q14 => (some (q1, q14)))) else ((fX8_wrapAllUnder q5 x1).bind fun q10 => (some (q1, q10))))))))
set_option maxHeartbeats 1000000 in
set_option maxRecDepth 100000 in
theorem mX8_renewed (l : Launch) (dC : Nat → ClassId) (dI : Nat → Nat → Nat) (cyI cyO : ClassId) (m0 m1 m2 m3 m4 m5 m6 : Nat) (state : Nat → Int32) (history : Nat → Int32) (recorded : Int32) (slots : Nat → Int32) (isSaved : Nat → Int32) (pad : Nat → Int32) (padLength : Int32) (opened : Nat → Int32) (pos : Int32) (letter : Int32) (first : Int32) (second : Int32) (x1 : Int32) (sz : Nat) (res : Int32 × (Nat → Int32)) (h : fX8_renewed state x1 = some res) : Met l yX8_renewed (wsG yX8_renewed cX8_renewed 3 (some .int)) ({ frames := 4, cells := 0, slots := 0, locals := 90 }) (cP dC dI cyI cyO sz [.ref m0, .int x1] (modelW cyI m0 m1 m2 m3 m4 m5 m6 state history recorded slots isSaved pad padLength opened pos letter first second)) (cI dC dI res.1 (modelW cyI m0 m1 m2 m3 m4 m5 m6 res.2 history recorded slots isSaved pad padLength opened pos letter first second) (va_A (modelW cyI m0 m1 m2 m3 m4 m5 m6 state history recorded slots isSaved pad padLength opened pos letter first second) sz)) 0 0 (va_A (modelW cyI m0 m1 m2 m3 m4 m5 m6 state history recorded slots isSaved pad padLength opened pos letter first second) sz) := by
  refine Met.ofW (cc := cX8_renewed) (maxL := 3) (ret := (some .int)) (by decide) rfl ?_
  intro p e s m args below meth c s₁ B hml hv
  obtain ⟨rfl, hsz, hP, hK, hD0⟩ := hv
  have hx := B.exec
  have hb := B.bytes
  have hr := B.returns
  have hts := atoms_spec (ws := wsG yX8_renewed cX8_renewed 3 (some .int)) B.pre
  have hown : s.vm.findClass RX8 = some m.cls := findClass_of_methodNamed B.named
  have hlocks := B.notSynchronized
  subst hsz
  have hD := hD0.self (sz := s.heap.size)
  generalize hAe : va_A (modelW cyI m0 m1 m2 m3 m4 m5 m6 state history recorded slots isSaved pad padLength opened pos letter first second) s.heap.size = A at hD ⊢
  have hA : ∀ q : Nat, s.heap.size ≤ q → A q := fun q h => by rw [← hAe]; exact Or.inr h
  have hS : va_S A s.heap s.heap [] := va_S.rf
  have hl := lv_entry ([.ref m0, .int x1]) (n := 3) (Nat.le_of_ble_eq_true rfl)
  rw [lg_entry_eq]
  generalize (lg_sl ([.ref m0, .int x1]) ++ List.replicate (3 - (lg_sl ([.ref m0, .int x1])).length) Slot.unset).toArray = ls at hl ⊢
  have hl : lv_has ls 3 [(0, .ref m0), (1, .int x1)] := hl
  unfold fX8_renewed at h
  refine lv_aload_n hx hb dX8_renewed_0 rfl (lv_at hl 0 rfl) ?_
  refine lv_iload_n hx hb dX8_renewed_1 rfl (lv_at hl 1 rfl) ?_
  obtain ⟨q1, e2, h⟩ := ob h
  refine fr_ir (M := (modelW cyI m0 m1 m2 m3 m4 m5 m6 state history recorded slots isSaved pad padLength opened pos letter first second)) (va_runV (As := [.int x1]) (rest := []) ⟨hx, hb, hml, hown, hts⟩ (mX8_renewMakes l dC dI cyI cyO m0 m1 m2 m3 m4 m5 m6 state history recorded slots isSaved pad padLength opened pos letter first second x1 _ q1 e2) (cwV 1 hts (gV ml_X8_135 im_X8_renewMakes se_X8_renewMakes in_X8 co_X8_renewMakes) rfl rfl rfl (by decide +kernel) ⟨Nat.le_of_ble_eq_true rfl, Nat.le_of_ble_eq_true rfl⟩) (cP_V hK hP hD [0, 1, 2, 3, 4, 5, 6] rfl rfl 0 rfl rfl) rfl rfl hl.1 rfl (lv_room (Nat.le_of_ble_eq_true rfl)) dX8_renewed_2 ⟨Nat.zero_le _, Nat.zero_le _⟩) hP hD hS hA [0, 1, 2, 3, 4, 5, 6] rfl (fun H locs hP hS => ?_)
  refine lv_istore_n (lv' := [(2, .int q1), (0, .ref m0), (1, .int x1)]) hx hb dX8_renewed_5 rfl hl (by decide) rfl (fun ls hl => ?_)
  refine lv_aload_n hx hb dX8_renewed_6 rfl (lv_at hl 1 rfl) ?_
  refine lv_iload_n hx hb dX8_renewed_7 rfl (lv_at hl 2 rfl) ?_
  obtain ⟨q3, e4, h⟩ := ob h
  refine fr_v (M := (modelW cyI m0 m1 m2 m3 m4 m5 m6 state history recorded slots isSaved pad padLength opened pos letter first second)) (M' := (modelW cyI m0 m1 m2 m3 m4 m5 m6 q3 history recorded slots isSaved pad padLength opened pos letter first second)) (L' := (modelW cyI m0 m1 m2 m3 m4 m5 m6 q3 history recorded slots isSaved pad padLength opened pos letter first second)) (va_runV (As := [.int x1]) (rest := []) ⟨hx, hb, hml, hown, hts⟩ (mX8_makesAnew l dC dI cyI cyO m0 m1 m2 m3 m4 m5 m6 state history recorded slots isSaved pad padLength opened pos letter first second x1 _ q3 e4) (cwV 1 hts (gV ml_X8_138 im_X8_makesAnew se_X8_makesAnew in_X8 co_X8_makesAnew) rfl rfl rfl (by decide +kernel) ⟨Nat.le_of_ble_eq_true rfl, Nat.le_of_ble_eq_true rfl⟩) (cP_V hK hP hD [0, 1, 2, 3, 4, 5, 6] rfl rfl 0 rfl rfl) rfl rfl hl.1 rfl (lv_room (Nat.le_of_ble_eq_true rfl)) dX8_renewed_8 ⟨Nat.zero_le _, Nat.zero_le _⟩) hP hD hS hA [0, 1, 2, 3, 4, 5, 6] rfl [(true, 0), (true, 1), (true, 2), (true, 3), (true, 4), (true, 5), (true, 6)] rfl rfl rfl (fun H locs hP hD hS => ?_)
  refine lv_aload_n hx hb dX8_renewed_11 rfl (lv_at hl 1 rfl) ?_
  obtain ⟨q5, e6, h⟩ := ob h
  refine fr_v (M := (modelW cyI m0 m1 m2 m3 m4 m5 m6 q3 history recorded slots isSaved pad padLength opened pos letter first second)) (M' := (modelW cyI m0 m1 m2 m3 m4 m5 m6 q5 history recorded slots isSaved pad padLength opened pos letter first second)) (L' := (modelW cyI m0 m1 m2 m3 m4 m5 m6 q5 history recorded slots isSaved pad padLength opened pos letter first second)) (va_runV (As := []) (rest := []) ⟨hx, hb, hml, hown, hts⟩ (mX8_burns l dC dI cyI cyO m0 m1 m2 m3 m4 m5 m6 q3 history recorded slots isSaved pad padLength opened pos letter first second _ q5 e6) (cwV 0 hts (gV ml_X8_141 im_X8_burns se_X8_burns in_X8 co_X8_burns) rfl rfl rfl (by decide +kernel) ⟨Nat.le_of_ble_eq_true rfl, Nat.le_of_ble_eq_true rfl⟩) (cP_V hK hP hD [0, 1, 2, 3, 4, 5, 6] rfl rfl 0 rfl rfl) rfl rfl hl.1 rfl (lv_room (Nat.le_of_ble_eq_true rfl)) dX8_renewed_12 ⟨Nat.zero_le _, Nat.zero_le _⟩) hP hD hS hA [0, 1, 2, 3, 4, 5, 6] rfl [(true, 0), (true, 1), (true, 2), (true, 3), (true, 4), (true, 5), (true, 6)] rfl rfl rfl (fun H locs hP hD hS => ?_)
  refine lv_aload_n hx hb dX8_renewed_15 rfl (lv_at hl 1 rfl) ?_
  refine lv_iload_n hx hb dX8_renewed_16 rfl (lv_at hl 2 rfl) ?_
  obtain ⟨q7, e8, h⟩ := ob h
  refine fr_ir (M := (modelW cyI m0 m1 m2 m3 m4 m5 m6 q5 history recorded slots isSaved pad padLength opened pos letter first second)) (va_runV (As := [.int x1]) (rest := []) ⟨hx, hb, hml, hown, hts⟩ (mX8_isRoot l dC dI cyI cyO m0 m1 m2 m3 m4 m5 m6 q5 history recorded slots isSaved pad padLength opened pos letter first second x1 _ q7 e8) (cwV 1 hts (gV ml_X8_84 im_X8_isRoot se_X8_isRoot in_X8 co_X8_isRoot) rfl rfl rfl (by decide +kernel) ⟨Nat.le_of_ble_eq_true rfl, Nat.le_of_ble_eq_true rfl⟩) (cP_V hK hP hD [0, 1, 2, 3, 4, 5, 6] rfl rfl 0 rfl rfl) rfl rfl hl.1 rfl (lv_room (Nat.le_of_ble_eq_true rfl)) dX8_renewed_17 ⟨Nat.zero_le _, Nat.zero_le _⟩) hP hD hS hA [0, 1, 2, 3, 4, 5, 6] rfl (fun H locs hP hS => ?_)
  refine lv_if_ne (tgt := 28) hx hb dX8_renewed_20 (by decide) (fun c9 => ?_) (fun c9 => ?_)
  · have h := (if_neg c9).symm.trans h
    refine lv_aload_n hx hb dX8_renewed_28 rfl (lv_at hl 1 rfl) ?_
    refine lv_iload_n hx hb dX8_renewed_29 rfl (lv_at hl 2 rfl) ?_
    obtain ⟨q10, e11, h⟩ := ob h
    refine fr_v (M := (modelW cyI m0 m1 m2 m3 m4 m5 m6 q5 history recorded slots isSaved pad padLength opened pos letter first second)) (M' := (modelW cyI m0 m1 m2 m3 m4 m5 m6 q10 history recorded slots isSaved pad padLength opened pos letter first second)) (L' := (modelW cyI m0 m1 m2 m3 m4 m5 m6 q10 history recorded slots isSaved pad padLength opened pos letter first second)) (va_runV (As := [.int x1]) (rest := []) ⟨hx, hb, hml, hown, hts⟩ (mX8_wrapAllUnder l dC dI cyI cyO m0 m1 m2 m3 m4 m5 m6 q5 history recorded slots isSaved pad padLength opened pos letter first second x1 _ q10 e11) (cwV 1 hts (gV ml_X8_144 im_X8_wrapAllUnder se_X8_wrapAllUnder in_X8 co_X8_wrapAllUnder) rfl rfl rfl (by decide +kernel) ⟨Nat.le_of_ble_eq_true rfl, Nat.le_of_ble_eq_true rfl⟩) (cP_V hK hP hD [0, 1, 2, 3, 4, 5, 6] rfl rfl 0 rfl rfl) rfl rfl hl.1 rfl (lv_room (Nat.le_of_ble_eq_true rfl)) dX8_renewed_30 ⟨Nat.zero_le _, Nat.zero_le _⟩) hP hD hS hA [0, 1, 2, 3, 4, 5, 6] rfl [(true, 0), (true, 1), (true, 2), (true, 3), (true, 4), (true, 5), (true, 6)] rfl rfl rfl (fun H locs hP hD hS => ?_)
    refine lv_iload_n hx hb dX8_renewed_33 rfl (lv_at hl 0 rfl) ?_
    obtain rfl := Option.some.inj h
    exact e_i hx hb hr hlocks hP hS dX8_renewed_34
  · have h := (if_pos c9).symm.trans h
    refine lv_aload_n hx hb dX8_renewed_23 rfl (lv_at hl 1 rfl) ?_
    refine lv_iload_n hx hb dX8_renewed_24 rfl (lv_at hl 2 rfl) ?_
    obtain ⟨q12, e13, h⟩ := ob h
    refine fr_v (M := (modelW cyI m0 m1 m2 m3 m4 m5 m6 q5 history recorded slots isSaved pad padLength opened pos letter first second)) (M' := (modelW cyI m0 m1 m2 m3 m4 m5 m6 q12 history recorded slots isSaved pad padLength opened pos letter first second)) (L' := (modelW cyI m0 m1 m2 m3 m4 m5 m6 q12 history recorded slots isSaved pad padLength opened pos letter first second)) (va_runV (As := [.int x1]) (rest := []) ⟨hx, hb, hml, hown, hts⟩ (mX8_wrapKey l dC dI cyI cyO m0 m1 m2 m3 m4 m5 m6 q5 history recorded slots isSaved pad padLength opened pos letter first second x1 _ q12 e13) (cwV 1 hts (gV ml_X8_74 im_X8_wrapKey se_X8_wrapKey in_X8 co_X8_wrapKey) rfl rfl rfl (by decide +kernel) ⟨Nat.le_of_ble_eq_true rfl, Nat.le_of_ble_eq_true rfl⟩) (cP_V hK hP hD [0, 1, 2, 3, 4, 5, 6] rfl rfl 0 rfl rfl) rfl rfl hl.1 rfl (lv_room (Nat.le_of_ble_eq_true rfl)) dX8_renewed_25 ⟨Nat.zero_le _, Nat.zero_le _⟩) hP hD hS hA [0, 1, 2, 3, 4, 5, 6] rfl [(true, 0), (true, 1), (true, 2), (true, 3), (true, 4), (true, 5), (true, 6)] rfl rfl rfl (fun H locs hP hD hS => ?_)
    refine lv_aload_n hx hb dX8_renewed_28 rfl (lv_at hl 1 rfl) ?_
    refine lv_iload_n hx hb dX8_renewed_29 rfl (lv_at hl 2 rfl) ?_
    obtain ⟨q14, e15, h⟩ := ob h
    refine fr_v (M := (modelW cyI m0 m1 m2 m3 m4 m5 m6 q12 history recorded slots isSaved pad padLength opened pos letter first second)) (M' := (modelW cyI m0 m1 m2 m3 m4 m5 m6 q14 history recorded slots isSaved pad padLength opened pos letter first second)) (L' := (modelW cyI m0 m1 m2 m3 m4 m5 m6 q14 history recorded slots isSaved pad padLength opened pos letter first second)) (va_runV (As := [.int x1]) (rest := []) ⟨hx, hb, hml, hown, hts⟩ (mX8_wrapAllUnder l dC dI cyI cyO m0 m1 m2 m3 m4 m5 m6 q12 history recorded slots isSaved pad padLength opened pos letter first second x1 _ q14 e15) (cwV 1 hts (gV ml_X8_144 im_X8_wrapAllUnder se_X8_wrapAllUnder in_X8 co_X8_wrapAllUnder) rfl rfl rfl (by decide +kernel) ⟨Nat.le_of_ble_eq_true rfl, Nat.le_of_ble_eq_true rfl⟩) (cP_V hK hP hD [0, 1, 2, 3, 4, 5, 6] rfl rfl 0 rfl rfl) rfl rfl hl.1 rfl (lv_room (Nat.le_of_ble_eq_true rfl)) dX8_renewed_30 ⟨Nat.zero_le _, Nat.zero_le _⟩) hP hD hS hA [0, 1, 2, 3, 4, 5, 6] rfl [(true, 0), (true, 1), (true, 2), (true, 3), (true, 4), (true, 5), (true, 6)] rfl rfl rfl (fun H locs hP hD hS => ?_)
    refine lv_iload_n hx hb dX8_renewed_33 rfl (lv_at hl 0 rfl) ?_
    obtain rfl := Option.some.inj h
    exact e_i hx hb hr hlocks hP hS dX8_renewed_34

noncomputable def fX8_renew (state : Nat → Int32) (history : Nat → Int32) (recorded : Int32) (x1 : Int32) : Option (Int32 × (Nat → Int32) × (Nat → Int32) × Int32) :=
  ((fX8_whyNotRenewed state x1).bind fun q1 => (if 0 ≤ q1 then ((fX8_record state history recorded).bind fun q4 => ((fX8_renewed state x1).bind fun q6 => (some (q6.1, q6.2, q4.1, q4.2)))) else (some (q1, state, history, recorded))))
set_option maxHeartbeats 1000000 in
set_option maxRecDepth 100000 in
theorem mX8_renew (l : Launch) (dC : Nat → ClassId) (dI : Nat → Nat → Nat) (cyI cyO : ClassId) (m0 m1 m2 m3 m4 m5 m6 : Nat) (state : Nat → Int32) (history : Nat → Int32) (recorded : Int32) (slots : Nat → Int32) (isSaved : Nat → Int32) (pad : Nat → Int32) (padLength : Int32) (opened : Nat → Int32) (pos : Int32) (letter : Int32) (first : Int32) (second : Int32) (x1 : Int32) (sz : Nat) (res : Int32 × (Nat → Int32) × (Nat → Int32) × Int32) (h : fX8_renew state history recorded x1 = some res) : Met l yX8_renew (wsG yX8_renew cX8_renew 3 (some .int)) ({ frames := 5, cells := 0, slots := 0, locals := 112 }) (cP dC dI cyI cyO sz [.ref m0, .int x1] (modelW cyI m0 m1 m2 m3 m4 m5 m6 state history recorded slots isSaved pad padLength opened pos letter first second)) (cI dC dI res.1 (modelW cyI m0 m1 m2 m3 m4 m5 m6 res.2.1 res.2.2.1 res.2.2.2 slots isSaved pad padLength opened pos letter first second) (va_A (modelW cyI m0 m1 m2 m3 m4 m5 m6 state history recorded slots isSaved pad padLength opened pos letter first second) sz)) 0 0 (va_A (modelW cyI m0 m1 m2 m3 m4 m5 m6 state history recorded slots isSaved pad padLength opened pos letter first second) sz) := by
  refine Met.ofW (cc := cX8_renew) (maxL := 3) (ret := (some .int)) (by decide) rfl ?_
  intro p e s m args below meth c s₁ B hml hv
  obtain ⟨rfl, hsz, hP, hK, hD0⟩ := hv
  have hx := B.exec
  have hb := B.bytes
  have hr := B.returns
  have hts := atoms_spec (ws := wsG yX8_renew cX8_renew 3 (some .int)) B.pre
  have hown : s.vm.findClass RX8 = some m.cls := findClass_of_methodNamed B.named
  have hlocks := B.notSynchronized
  subst hsz
  have hD := hD0.self (sz := s.heap.size)
  generalize hAe : va_A (modelW cyI m0 m1 m2 m3 m4 m5 m6 state history recorded slots isSaved pad padLength opened pos letter first second) s.heap.size = A at hD ⊢
  have hA : ∀ q : Nat, s.heap.size ≤ q → A q := fun q h => by rw [← hAe]; exact Or.inr h
  have hS : va_S A s.heap s.heap [] := va_S.rf
  have hl := lv_entry ([.ref m0, .int x1]) (n := 3) (Nat.le_of_ble_eq_true rfl)
  rw [lg_entry_eq]
  generalize (lg_sl ([.ref m0, .int x1]) ++ List.replicate (3 - (lg_sl ([.ref m0, .int x1])).length) Slot.unset).toArray = ls at hl ⊢
  have hl : lv_has ls 3 [(0, .ref m0), (1, .int x1)] := hl
  unfold fX8_renew at h
  refine lv_aload_n hx hb dX8_renew_0 rfl (lv_at hl 0 rfl) ?_
  refine lv_iload_n hx hb dX8_renew_1 rfl (lv_at hl 1 rfl) ?_
  obtain ⟨q1, e2, h⟩ := ob h
  refine fr_ir (M := (modelW cyI m0 m1 m2 m3 m4 m5 m6 state history recorded slots isSaved pad padLength opened pos letter first second)) (va_runV (As := [.int x1]) (rest := []) ⟨hx, hb, hml, hown, hts⟩ (mX8_whyNotRenewed l dC dI cyI cyO m0 m1 m2 m3 m4 m5 m6 state history recorded slots isSaved pad padLength opened pos letter first second x1 _ q1 e2) (cwV 1 hts (gV ml_X8_147 im_X8_whyNotRenewed se_X8_whyNotRenewed in_X8 co_X8_whyNotRenewed) rfl rfl rfl (by decide +kernel) ⟨Nat.le_of_ble_eq_true rfl, Nat.le_of_ble_eq_true rfl⟩) (cP_V hK hP hD [0, 1, 2, 3, 4, 5, 6] rfl rfl 0 rfl rfl) rfl rfl hl.1 rfl (lv_room (Nat.le_of_ble_eq_true rfl)) dX8_renew_2 ⟨Nat.zero_le _, Nat.zero_le _⟩) hP hD hS hA [0, 1, 2, 3, 4, 5, 6] rfl (fun H locs hP hS => ?_)
  refine lv_istore_n (lv' := [(2, .int q1), (0, .ref m0), (1, .int x1)]) hx hb dX8_renew_5 rfl hl (by decide) rfl (fun ls hl => ?_)
  refine lv_iload_n hx hb dX8_renew_6 rfl (lv_at hl 0 rfl) ?_
  refine lv_if_ge (tgt := 12) hx hb dX8_renew_7 (by decide) (fun c3 => ?_) (fun c3 => ?_)
  · have h := (if_pos c3).symm.trans h
    refine lv_aload_n hx hb dX8_renew_12 rfl (lv_at hl 1 rfl) ?_
    obtain ⟨q4, e5, h⟩ := ob h
    refine fr_v (M := (modelW cyI m0 m1 m2 m3 m4 m5 m6 state history recorded slots isSaved pad padLength opened pos letter first second)) (M' := (modelW cyI m0 m1 m2 m3 m4 m5 m6 state q4.1 q4.2 slots isSaved pad padLength opened pos letter first second)) (L' := (modelW cyI m0 m1 m2 m3 m4 m5 m6 state q4.1 q4.2 slots isSaved pad padLength opened pos letter first second)) (va_runV (As := []) (rest := []) ⟨hx, hb, hml, hown, hts⟩ (mX8_record l dC dI cyI cyO m0 m1 m2 m3 m4 m5 m6 state history recorded slots isSaved pad padLength opened pos letter first second _ q4 e5) (cwV 0 hts (gV ml_X8_102 im_X8_record se_X8_record in_X8 co_X8_record) rfl rfl rfl (by decide +kernel) ⟨Nat.le_of_ble_eq_true rfl, Nat.le_of_ble_eq_true rfl⟩) (cP_V hK hP hD [0, 1, 2, 3, 4, 5, 6] rfl rfl 0 rfl rfl) rfl rfl hl.1 rfl (lv_room (Nat.le_of_ble_eq_true rfl)) dX8_renew_13 ⟨Nat.zero_le _, Nat.zero_le _⟩) hP hD hS hA [0, 1, 2, 3, 4, 5, 6] rfl [(true, 0), (true, 1), (true, 2), (true, 3), (true, 4), (true, 5), (true, 6)] rfl rfl rfl (fun H locs hP hD hS => ?_)
    refine lv_aload_n hx hb dX8_renew_16 rfl (lv_at hl 1 rfl) ?_
    refine lv_iload_n hx hb dX8_renew_17 rfl (lv_at hl 2 rfl) ?_
    obtain ⟨q6, e7, h⟩ := ob h
    refine fr_i (M := (modelW cyI m0 m1 m2 m3 m4 m5 m6 state q4.1 q4.2 slots isSaved pad padLength opened pos letter first second)) (M' := (modelW cyI m0 m1 m2 m3 m4 m5 m6 q6.2 q4.1 q4.2 slots isSaved pad padLength opened pos letter first second)) (L' := (modelW cyI m0 m1 m2 m3 m4 m5 m6 q6.2 q4.1 q4.2 slots isSaved pad padLength opened pos letter first second)) (va_runV (As := [.int x1]) (rest := []) ⟨hx, hb, hml, hown, hts⟩ (mX8_renewed l dC dI cyI cyO m0 m1 m2 m3 m4 m5 m6 state q4.1 q4.2 slots isSaved pad padLength opened pos letter first second x1 _ q6 e7) (cwV 1 hts (gV ml_X8_150 im_X8_renewed se_X8_renewed in_X8 co_X8_renewed) rfl rfl rfl (by decide +kernel) ⟨Nat.le_of_ble_eq_true rfl, Nat.le_of_ble_eq_true rfl⟩) (cP_V hK hP hD [0, 1, 2, 3, 4, 5, 6] rfl rfl 0 rfl rfl) rfl rfl hl.1 rfl (lv_room (Nat.le_of_ble_eq_true rfl)) dX8_renew_18 ⟨Nat.zero_le _, Nat.zero_le _⟩) hP hD hS hA [0, 1, 2, 3, 4, 5, 6] rfl [(true, 0), (true, 1), (true, 2), (true, 3), (true, 4), (true, 5), (true, 6)] rfl rfl rfl (fun H locs hP hD hS => ?_)
    obtain rfl := Option.some.inj h
    exact e_i hx hb hr hlocks hP hS dX8_renew_21
  · have h := (if_neg c3).symm.trans h
    refine lv_iload_n hx hb dX8_renew_10 rfl (lv_at hl 0 rfl) ?_
    obtain rfl := Option.some.inj h
    exact e_i hx hb hr hlocks hP hS dX8_renew_11
noncomputable def fX8_throwMakes_b31 (k7 : (Nat → Int32) → Int32 → Int32 → Int32 → Int32 → Option (Int32)) (state : Nat → Int32) (y1 : Int32) (y2 : Int32) (y3 : Int32) (y4 : Int32) (z0 : Int32) (z1 : Int32) : Option (Int32) :=
  (if y3 = 0 then ((fX8_keyPart state y4 0).bind fun q2 => k7 state y1 (y2 + (z0 - z1)) 0 q2) else (if (0 : Int32) < 0 ∨ 844 ≤ (0 : Int32).toNatClampNeg then none else (if (state (0 : Int32).toNatClampNeg) < (z0 - z1) then ((fX8_keyPart state y4 0).bind fun q6 => k7 state y1 (y2 + (z0 - z1)) 0 q6) else ((fX8_keyPart state y4 0).bind fun q8 => k7 state y1 (y2 + (z0 - z1)) 1 q8))))

noncomputable def fX8_throwMakes_b7 : Nat → (Nat → Int32) → Int32 → Int32 → Int32 → Int32 → Option (Int32)
  | 0, _, _, _, _, _ => none
  | fuel + 1, state, y1, y2, y3, y4 =>
  (if y4 = (-6) then (if y3 = 0 then (some (-5)) else (some y2)) else ((fX8_hangingFrom state y4).bind fun q12 => (if y4 = y1 then fX8_throwMakes_b31 (fX8_throwMakes_b7 fuel) state y1 y2 y3 y4 q12 1 else fX8_throwMakes_b31 (fX8_throwMakes_b7 fuel) state y1 y2 y3 y4 q12 0)))

noncomputable def fX8_throwMakes (state : Nat → Int32) (x1 : Int32) : Option (Int32) :=
  fX8_throwMakes_b7 6000 state x1 0 1 x1
set_option maxHeartbeats 1000000 in
set_option maxRecDepth 100000 in
theorem mX8_throwMakes (l : Launch) (dC : Nat → ClassId) (dI : Nat → Nat → Nat) (cyI cyO : ClassId) (m0 m1 m2 m3 m4 m5 m6 : Nat) (state : Nat → Int32) (history : Nat → Int32) (recorded : Int32) (slots : Nat → Int32) (isSaved : Nat → Int32) (pad : Nat → Int32) (padLength : Int32) (opened : Nat → Int32) (pos : Int32) (letter : Int32) (first : Int32) (second : Int32) (x1 : Int32) (sz : Nat) (res : Int32) (h : fX8_throwMakes state x1 = some res) : Met l yX8_throwMakes (wsG yX8_throwMakes cX8_throwMakes 6 (some .int)) ({ frames := 3, cells := 0, slots := 0, locals := 66 }) (cP dC dI cyI cyO sz [.ref m0, .int x1] (modelW cyI m0 m1 m2 m3 m4 m5 m6 state history recorded slots isSaved pad padLength opened pos letter first second)) (cI dC dI res (modelW cyI m0 m1 m2 m3 m4 m5 m6 state history recorded slots isSaved pad padLength opened pos letter first second) (va_A (modelW cyI m0 m1 m2 m3 m4 m5 m6 state history recorded slots isSaved pad padLength opened pos letter first second) sz)) 0 0 (va_A (modelW cyI m0 m1 m2 m3 m4 m5 m6 state history recorded slots isSaved pad padLength opened pos letter first second) sz) := by
  refine Met.ofW (cc := cX8_throwMakes) (maxL := 6) (ret := (some .int)) (by decide) rfl ?_
  intro p e s m args below meth c s₁ B hml hv
  obtain ⟨rfl, hsz, hP, hK, hD0⟩ := hv
  have hx := B.exec
  have hb := B.bytes
  have hr := B.returns
  have hts := atoms_spec (ws := wsG yX8_throwMakes cX8_throwMakes 6 (some .int)) B.pre
  have hown : s.vm.findClass RX8 = some m.cls := findClass_of_methodNamed B.named
  have hlocks := B.notSynchronized
  subst hsz
  have hD := hD0.self (sz := s.heap.size)
  generalize hAe : va_A (modelW cyI m0 m1 m2 m3 m4 m5 m6 state history recorded slots isSaved pad padLength opened pos letter first second) s.heap.size = A at hD ⊢
  have hA : ∀ q : Nat, s.heap.size ≤ q → A q := fun q h => by rw [← hAe]; exact Or.inr h
  have hS : va_S A s.heap s.heap [] := va_S.rf
  have kB31 : ∀ (k7 : (Nat → Int32) → Int32 → Int32 → Int32 → Int32 → Option (Int32)) (hk7 : ∀ (state : Nat → Int32) (y1 : Int32) (y2 : Int32) (y3 : Int32) (y4 : Int32), k7 state y1 y2 y3 y4 = some res → ∀ (H : Heap) (locs : List Loc), va_P (dC, dI) vwCl (modelW cyI m0 m1 m2 m3 m4 m5 m6 state history recorded slots isSaved pad padLength opened pos letter first second) H → va_D A (modelW cyI m0 m1 m2 m3 m4 m5 m6 state history recorded slots isSaved pad padLength opened pos letter first second) → va_S A s.heap H locs → ∀ ls : Array Slot, lv_has ls 6 [(0, .ref m0), (1, .int y1), (2, .int y2), (3, .int y3), (4, .int y4)] → W p l e (headSpec (wsG yX8_throwMakes cX8_throwMakes 6 (some .int)) ({ frames := 3, cells := 0, slots := 0, locals := 66 })).room s m (([.ref m0, .int x1] : List Value).toArray) below meth c H locs 0 0 (MQ below (cI dC dI res (modelW cyI m0 m1 m2 m3 m4 m5 m6 state history recorded slots isSaved pad padLength opened pos letter first second) A) ([.ref m0, .int x1] : List Value).toArray s 0 0 A) (F0 m 7 ls [])) (state : Nat → Int32) (y1 : Int32) (y2 : Int32) (y3 : Int32) (y4 : Int32) (z0 : Int32) (z1 : Int32), fX8_throwMakes_b31 k7 state y1 y2 y3 y4 z0 z1 = some res → ∀ (H : Heap) (locs : List Loc), va_P (dC, dI) vwCl (modelW cyI m0 m1 m2 m3 m4 m5 m6 state history recorded slots isSaved pad padLength opened pos letter first second) H → va_D A (modelW cyI m0 m1 m2 m3 m4 m5 m6 state history recorded slots isSaved pad padLength opened pos letter first second) → va_S A s.heap H locs → ∀ ls : Array Slot, lv_has ls 6 [(0, .ref m0), (1, .int y1), (2, .int y2), (3, .int y3), (4, .int y4)] → W p l e (headSpec (wsG yX8_throwMakes cX8_throwMakes 6 (some .int)) ({ frames := 3, cells := 0, slots := 0, locals := 66 })).room s m (([.ref m0, .int x1] : List Value).toArray) below meth c H locs 0 0 (MQ below (cI dC dI res (modelW cyI m0 m1 m2 m3 m4 m5 m6 state history recorded slots isSaved pad padLength opened pos letter first second) A) ([.ref m0, .int x1] : List Value).toArray s 0 0 A) (F0 m 31 ls [.int z1, .int z0]) := by
    intro k7 hk7 state y1 y2 y3 y4 z0 z1 h H locs hP hD hS ls hl
    unfold fX8_throwMakes_b31 at h
    refine lv_isub hx hb dX8_throwMakes_31 ?_
    refine lv_istore (lv' := [(5, .int (z0 - z1)), (0, .ref m0), (1, .int y1), (2, .int y2), (3, .int y3), (4, .int y4)]) hx hb dX8_throwMakes_32 hl (by decide) rfl (fun ls hl => ?_)
    refine lv_iload_n hx hb dX8_throwMakes_34 rfl (lv_at hl 4 rfl) ?_
    refine lv_if_eq (tgt := 53) hx hb dX8_throwMakes_35 (by decide) (fun c1 => ?_) (fun c1 => ?_)
    · have h := (if_pos c1).symm.trans h
      refine lv_iconst (v := 0) hx hb dX8_throwMakes_53 (by decide) ?_
      refine lv_istore_n (lv' := [(3, .int 0), (5, .int (z0 - z1)), (0, .ref m0), (1, .int y1), (2, .int y2), (4, .int y4)]) hx hb dX8_throwMakes_54 rfl hl (by decide) rfl (fun ls hl => ?_)
      refine lv_iload_n hx hb dX8_throwMakes_55 rfl (lv_at hl 4 rfl) ?_
      refine lv_iload hx hb dX8_throwMakes_56 (lv_at hl 1 rfl) ?_
      refine lv_iadd hx hb dX8_throwMakes_58 ?_
      refine lv_istore_n (lv' := [(2, .int (y2 + (z0 - z1))), (3, .int 0), (5, .int (z0 - z1)), (0, .ref m0), (1, .int y1), (4, .int y4)]) hx hb dX8_throwMakes_59 rfl hl (by decide) rfl (fun ls hl => ?_)
      refine lv_aload_n hx hb dX8_throwMakes_60 rfl (lv_at hl 3 rfl) ?_
      refine lv_iload hx hb dX8_throwMakes_61 (lv_at hl 5 rfl) ?_
      refine lv_iconst (v := 0) hx hb dX8_throwMakes_63 (by decide) ?_
      obtain ⟨q2, e3, h⟩ := ob h
      refine fr_ir (M := (modelW cyI m0 m1 m2 m3 m4 m5 m6 state history recorded slots isSaved pad padLength opened pos letter first second)) (va_runV (As := [.int y4, .int 0]) (rest := []) ⟨hx, hb, hml, hown, hts⟩ (mX8_keyPart l dC dI cyI cyO m0 m1 m2 m3 m4 m5 m6 state history recorded slots isSaved pad padLength opened pos letter first second y4 0 _ q2 e3) (cwV 2 hts (gV ml_X8_44 im_X8_keyPart se_X8_keyPart in_X8 co_X8_keyPart) rfl rfl rfl (by decide +kernel) ⟨Nat.le_of_ble_eq_true rfl, Nat.le_of_ble_eq_true rfl⟩) (cP_V hK hP hD [0, 1, 2, 3, 4, 5, 6] rfl rfl 0 rfl rfl) rfl rfl hl.1 rfl (lv_room (Nat.le_of_ble_eq_true rfl)) dX8_throwMakes_64 ⟨Nat.zero_le _, Nat.zero_le _⟩) hP hD hS hA [0, 1, 2, 3, 4, 5, 6] rfl (fun H locs hP hS => ?_)
      refine lv_istore (lv' := [(4, .int q2), (2, .int (y2 + (z0 - z1))), (3, .int 0), (5, .int (z0 - z1)), (0, .ref m0), (1, .int y1)]) hx hb dX8_throwMakes_67 hl (by decide) rfl (fun ls hl => ?_)
      refine lv_goto (tgt := 7) hx hb dX8_throwMakes_69 (by decide) ?_
      exact hk7 state y1 (y2 + (z0 - z1)) 0 q2 h _ _ hP hD hS ls (lv_sub hl [4, 5, 1, 2, 0] rfl)
    · have h := (if_neg c1).symm.trans h
      refine lv_iload hx hb dX8_throwMakes_38 (lv_at hl 0 rfl) ?_
      refine lv_aload_n hx hb dX8_throwMakes_40 rfl (lv_at hl 1 rfl) ?_
      refine va_get (D := (dC, dI)) (ci := 8) (v := .ref m1) (C := RX8) (T := TX8) (N := 12) hx hb hts (fun w h9 => gb_mem (lay_X8 w h9)) hown hK.1 hP 0 rfl rfl 0 (by decide) (hts _ (gb_mem fl_X8_7)) (fun _ h9 => h9) rfl dX8_throwMakes_41 ?_
      refine lv_iconst (v := 0) hx hb dX8_throwMakes_44 (by decide) ?_
      obtain ⟨ni4, h⟩ := ifn h
      refine va_iald hx hb hK.1 hP 1 0 rfl rfl ni4 dX8_throwMakes_45 ?_
      refine lv_icmp_gt (tgt := 53) hx hb dX8_throwMakes_46 (by decide) (fun c5 => ?_) (fun c5 => ?_)
      · have h := (if_pos c5).symm.trans h
        refine lv_iconst (v := 0) hx hb dX8_throwMakes_53 (by decide) ?_
        refine lv_istore_n (lv' := [(3, .int 0), (5, .int (z0 - z1)), (0, .ref m0), (1, .int y1), (2, .int y2), (4, .int y4)]) hx hb dX8_throwMakes_54 rfl hl (by decide) rfl (fun ls hl => ?_)
        refine lv_iload_n hx hb dX8_throwMakes_55 rfl (lv_at hl 4 rfl) ?_
        refine lv_iload hx hb dX8_throwMakes_56 (lv_at hl 1 rfl) ?_
        refine lv_iadd hx hb dX8_throwMakes_58 ?_
        refine lv_istore_n (lv' := [(2, .int (y2 + (z0 - z1))), (3, .int 0), (5, .int (z0 - z1)), (0, .ref m0), (1, .int y1), (4, .int y4)]) hx hb dX8_throwMakes_59 rfl hl (by decide) rfl (fun ls hl => ?_)
        refine lv_aload_n hx hb dX8_throwMakes_60 rfl (lv_at hl 3 rfl) ?_
        refine lv_iload hx hb dX8_throwMakes_61 (lv_at hl 5 rfl) ?_
        refine lv_iconst (v := 0) hx hb dX8_throwMakes_63 (by decide) ?_
        obtain ⟨q6, e7, h⟩ := ob h
        refine fr_ir (M := (modelW cyI m0 m1 m2 m3 m4 m5 m6 state history recorded slots isSaved pad padLength opened pos letter first second)) (va_runV (As := [.int y4, .int 0]) (rest := []) ⟨hx, hb, hml, hown, hts⟩ (mX8_keyPart l dC dI cyI cyO m0 m1 m2 m3 m4 m5 m6 state history recorded slots isSaved pad padLength opened pos letter first second y4 0 _ q6 e7) (cwV 2 hts (gV ml_X8_44 im_X8_keyPart se_X8_keyPart in_X8 co_X8_keyPart) rfl rfl rfl (by decide +kernel) ⟨Nat.le_of_ble_eq_true rfl, Nat.le_of_ble_eq_true rfl⟩) (cP_V hK hP hD [0, 1, 2, 3, 4, 5, 6] rfl rfl 0 rfl rfl) rfl rfl hl.1 rfl (lv_room (Nat.le_of_ble_eq_true rfl)) dX8_throwMakes_64 ⟨Nat.zero_le _, Nat.zero_le _⟩) hP hD hS hA [0, 1, 2, 3, 4, 5, 6] rfl (fun H locs hP hS => ?_)
        refine lv_istore (lv' := [(4, .int q6), (2, .int (y2 + (z0 - z1))), (3, .int 0), (5, .int (z0 - z1)), (0, .ref m0), (1, .int y1)]) hx hb dX8_throwMakes_67 hl (by decide) rfl (fun ls hl => ?_)
        refine lv_goto (tgt := 7) hx hb dX8_throwMakes_69 (by decide) ?_
        exact hk7 state y1 (y2 + (z0 - z1)) 0 q6 h _ _ hP hD hS ls (lv_sub hl [4, 5, 1, 2, 0] rfl)
      · have h := (if_neg c5).symm.trans h
        refine lv_iconst (v := 1) hx hb dX8_throwMakes_49 (by decide) ?_
        refine lv_goto (tgt := 54) hx hb dX8_throwMakes_50 (by decide) ?_
        refine lv_istore_n (lv' := [(3, .int 1), (5, .int (z0 - z1)), (0, .ref m0), (1, .int y1), (2, .int y2), (4, .int y4)]) hx hb dX8_throwMakes_54 rfl hl (by decide) rfl (fun ls hl => ?_)
        refine lv_iload_n hx hb dX8_throwMakes_55 rfl (lv_at hl 4 rfl) ?_
        refine lv_iload hx hb dX8_throwMakes_56 (lv_at hl 1 rfl) ?_
        refine lv_iadd hx hb dX8_throwMakes_58 ?_
        refine lv_istore_n (lv' := [(2, .int (y2 + (z0 - z1))), (3, .int 1), (5, .int (z0 - z1)), (0, .ref m0), (1, .int y1), (4, .int y4)]) hx hb dX8_throwMakes_59 rfl hl (by decide) rfl (fun ls hl => ?_)
        refine lv_aload_n hx hb dX8_throwMakes_60 rfl (lv_at hl 3 rfl) ?_
        refine lv_iload hx hb dX8_throwMakes_61 (lv_at hl 5 rfl) ?_
        refine lv_iconst (v := 0) hx hb dX8_throwMakes_63 (by decide) ?_
        obtain ⟨q8, e9, h⟩ := ob h
        refine fr_ir (M := (modelW cyI m0 m1 m2 m3 m4 m5 m6 state history recorded slots isSaved pad padLength opened pos letter first second)) (va_runV (As := [.int y4, .int 0]) (rest := []) ⟨hx, hb, hml, hown, hts⟩ (mX8_keyPart l dC dI cyI cyO m0 m1 m2 m3 m4 m5 m6 state history recorded slots isSaved pad padLength opened pos letter first second y4 0 _ q8 e9) (cwV 2 hts (gV ml_X8_44 im_X8_keyPart se_X8_keyPart in_X8 co_X8_keyPart) rfl rfl rfl (by decide +kernel) ⟨Nat.le_of_ble_eq_true rfl, Nat.le_of_ble_eq_true rfl⟩) (cP_V hK hP hD [0, 1, 2, 3, 4, 5, 6] rfl rfl 0 rfl rfl) rfl rfl hl.1 rfl (lv_room (Nat.le_of_ble_eq_true rfl)) dX8_throwMakes_64 ⟨Nat.zero_le _, Nat.zero_le _⟩) hP hD hS hA [0, 1, 2, 3, 4, 5, 6] rfl (fun H locs hP hS => ?_)
        refine lv_istore (lv' := [(4, .int q8), (2, .int (y2 + (z0 - z1))), (3, .int 1), (5, .int (z0 - z1)), (0, .ref m0), (1, .int y1)]) hx hb dX8_throwMakes_67 hl (by decide) rfl (fun ls hl => ?_)
        refine lv_goto (tgt := 7) hx hb dX8_throwMakes_69 (by decide) ?_
        exact hk7 state y1 (y2 + (z0 - z1)) 1 q8 h _ _ hP hD hS ls (lv_sub hl [4, 5, 1, 2, 0] rfl)
  have kB7 : ∀ (fuel : Nat) (state : Nat → Int32) (y1 : Int32) (y2 : Int32) (y3 : Int32) (y4 : Int32), fX8_throwMakes_b7 fuel state y1 y2 y3 y4 = some res → ∀ (H : Heap) (locs : List Loc), va_P (dC, dI) vwCl (modelW cyI m0 m1 m2 m3 m4 m5 m6 state history recorded slots isSaved pad padLength opened pos letter first second) H → va_D A (modelW cyI m0 m1 m2 m3 m4 m5 m6 state history recorded slots isSaved pad padLength opened pos letter first second) → va_S A s.heap H locs → ∀ ls : Array Slot, lv_has ls 6 [(0, .ref m0), (1, .int y1), (2, .int y2), (3, .int y3), (4, .int y4)] → W p l e (headSpec (wsG yX8_throwMakes cX8_throwMakes 6 (some .int)) ({ frames := 3, cells := 0, slots := 0, locals := 66 })).room s m (([.ref m0, .int x1] : List Value).toArray) below meth c H locs 0 0 (MQ below (cI dC dI res (modelW cyI m0 m1 m2 m3 m4 m5 m6 state history recorded slots isSaved pad padLength opened pos letter first second) A) ([.ref m0, .int x1] : List Value).toArray s 0 0 A) (F0 m 7 ls []) := by
    intro fuel
    induction fuel with
    | zero => intro state y1 y2 y3 y4 h; rw [fX8_throwMakes_b7] at h; cases h
    | succ fuel ih =>
      intro state y1 y2 y3 y4 h H locs hP hD hS ls hl
      rw [fX8_throwMakes_b7] at h
      refine lv_iload hx hb dX8_throwMakes_7 (lv_at hl 4 rfl) ?_
      refine lv_bipush (v := (-6)) hx hb dX8_throwMakes_9 (by decide) ?_
      refine lv_icmp_eq (tgt := 72) hx hb dX8_throwMakes_11 (by decide) (fun c10 => ?_) (fun c10 => ?_)
      · have h := (if_pos c10).symm.trans h
        refine lv_iload_n hx hb dX8_throwMakes_72 rfl (lv_at hl 3 rfl) ?_
        refine lv_if_eq (tgt := 80) hx hb dX8_throwMakes_73 (by decide) (fun c11 => ?_) (fun c11 => ?_)
        · have h := (if_pos c11).symm.trans h
          refine lv_bipush (v := (-5)) hx hb dX8_throwMakes_80 (by decide) ?_
          obtain rfl := Option.some.inj h
          exact e_i hx hb hr hlocks hP hS dX8_throwMakes_82
        · have h := (if_neg c11).symm.trans h
          refine lv_iload_n hx hb dX8_throwMakes_76 rfl (lv_at hl 2 rfl) ?_
          refine lv_goto (tgt := 82) hx hb dX8_throwMakes_77 (by decide) ?_
          obtain rfl := Option.some.inj h
          exact e_i hx hb hr hlocks hP hS dX8_throwMakes_82
      · have h := (if_neg c10).symm.trans h
        refine lv_aload_n hx hb dX8_throwMakes_14 rfl (lv_at hl 0 rfl) ?_
        refine lv_iload hx hb dX8_throwMakes_15 (lv_at hl 4 rfl) ?_
        obtain ⟨q12, e13, h⟩ := ob h
        refine fr_ir (M := (modelW cyI m0 m1 m2 m3 m4 m5 m6 state history recorded slots isSaved pad padLength opened pos letter first second)) (va_runV (As := [.int y4]) (rest := []) ⟨hx, hb, hml, hown, hts⟩ (mX8_hangingFrom l dC dI cyI cyO m0 m1 m2 m3 m4 m5 m6 state history recorded slots isSaved pad padLength opened pos letter first second y4 _ q12 e13) (cwV 1 hts (gV ml_X8_132 im_X8_hangingFrom se_X8_hangingFrom in_X8 co_X8_hangingFrom) rfl rfl rfl (by decide +kernel) ⟨Nat.le_of_ble_eq_true rfl, Nat.le_of_ble_eq_true rfl⟩) (cP_V hK hP hD [0, 1, 2, 3, 4, 5, 6] rfl rfl 0 rfl rfl) rfl rfl hl.1 rfl (lv_room (Nat.le_of_ble_eq_true rfl)) dX8_throwMakes_17 ⟨Nat.zero_le _, Nat.zero_le _⟩) hP hD hS hA [0, 1, 2, 3, 4, 5, 6] rfl (fun H locs hP hS => ?_)
        refine lv_iload hx hb dX8_throwMakes_20 (lv_at hl 4 rfl) ?_
        refine lv_iload_n hx hb dX8_throwMakes_22 rfl (lv_at hl 1 rfl) ?_
        refine lv_icmp_ne (tgt := 30) hx hb dX8_throwMakes_23 (by decide) (fun c14 => ?_) (fun c14 => ?_)
        · have h := (if_neg c14).symm.trans h
          refine lv_iconst (v := 0) hx hb dX8_throwMakes_30 (by decide) ?_
          exact kB31 (fX8_throwMakes_b7 fuel) ih state y1 y2 y3 y4 q12 0 h _ _ hP hD hS ls (lv_sub hl [0, 1, 2, 3, 4] rfl)
        · have h := (if_pos c14).symm.trans h
          refine lv_iconst (v := 1) hx hb dX8_throwMakes_26 (by decide) ?_
          refine lv_goto (tgt := 31) hx hb dX8_throwMakes_27 (by decide) ?_
          exact kB31 (fX8_throwMakes_b7 fuel) ih state y1 y2 y3 y4 q12 1 h _ _ hP hD hS ls (lv_sub hl [0, 1, 2, 3, 4] rfl)
  have hl := lv_entry ([.ref m0, .int x1]) (n := 6) (Nat.le_of_ble_eq_true rfl)
  rw [lg_entry_eq]
  generalize (lg_sl ([.ref m0, .int x1]) ++ List.replicate (6 - (lg_sl ([.ref m0, .int x1])).length) Slot.unset).toArray = ls at hl ⊢
  have hl : lv_has ls 6 [(0, .ref m0), (1, .int x1)] := hl
  unfold fX8_throwMakes at h
  refine lv_iconst (v := 0) hx hb dX8_throwMakes_0 (by decide) ?_
  refine lv_istore_n (lv' := [(2, .int 0), (0, .ref m0), (1, .int x1)]) hx hb dX8_throwMakes_1 rfl hl (by decide) rfl (fun ls hl => ?_)
  refine lv_iconst (v := 1) hx hb dX8_throwMakes_2 (by decide) ?_
  refine lv_istore_n (lv' := [(3, .int 1), (2, .int 0), (0, .ref m0), (1, .int x1)]) hx hb dX8_throwMakes_3 rfl hl (by decide) rfl (fun ls hl => ?_)
  refine lv_iload_n hx hb dX8_throwMakes_4 rfl (lv_at hl 3 rfl) ?_
  refine lv_istore (lv' := [(4, .int x1), (3, .int 1), (2, .int 0), (0, .ref m0), (1, .int x1)]) hx hb dX8_throwMakes_5 hl (by decide) rfl (fun ls hl => ?_)
  exact kB7 6000 state x1 0 1 x1 h _ _ hP hD hS ls (lv_sub hl [3, 4, 2, 1, 0] rfl)
noncomputable def fX8_whyNotThrown_b4 : Nat → (Nat → Int32) → Int32 → Int32 → Int32 → Option (Int32)
  | 0, _, _, _, _ => none
  | fuel + 1, state, y1, y2, y3 =>
  (if y3 = (-6) then (if (3 : Int32) < 0 ∨ 844 ≤ (3 : Int32).toNatClampNeg then none else (if ((state (3 : Int32).toNatClampNeg) + y2) ≤ 120 then ((fX8_throwMakes state y1).bind fun q4 => (if 0 ≤ q4 then (some 0) else (some (-5)))) else (some (-4)))) else ((fX8_hangingFrom state y3).bind fun q7 => (if y3 = y1 then ((fX8_keyPart state y3 0).bind fun q12 => fX8_whyNotThrown_b4 fuel state y1 (y2 + (q7 - 1)) q12) else ((fX8_keyPart state y3 0).bind fun q10 => fX8_whyNotThrown_b4 fuel state y1 (y2 + (q7 - 0)) q10))))

noncomputable def fX8_whyNotThrown (state : Nat → Int32) (x1 : Int32) : Option (Int32) :=
  fX8_whyNotThrown_b4 6000 state x1 0 x1
set_option maxHeartbeats 1000000 in
set_option maxRecDepth 100000 in
theorem mX8_whyNotThrown (l : Launch) (dC : Nat → ClassId) (dI : Nat → Nat → Nat) (cyI cyO : ClassId) (m0 m1 m2 m3 m4 m5 m6 : Nat) (state : Nat → Int32) (history : Nat → Int32) (recorded : Int32) (slots : Nat → Int32) (isSaved : Nat → Int32) (pad : Nat → Int32) (padLength : Int32) (opened : Nat → Int32) (pos : Int32) (letter : Int32) (first : Int32) (second : Int32) (x1 : Int32) (sz : Nat) (res : Int32) (h : fX8_whyNotThrown state x1 = some res) : Met l yX8_whyNotThrown (wsG yX8_whyNotThrown cX8_whyNotThrown 4 (some .int)) ({ frames := 4, cells := 0, slots := 0, locals := 91 }) (cP dC dI cyI cyO sz [.ref m0, .int x1] (modelW cyI m0 m1 m2 m3 m4 m5 m6 state history recorded slots isSaved pad padLength opened pos letter first second)) (cI dC dI res (modelW cyI m0 m1 m2 m3 m4 m5 m6 state history recorded slots isSaved pad padLength opened pos letter first second) (va_A (modelW cyI m0 m1 m2 m3 m4 m5 m6 state history recorded slots isSaved pad padLength opened pos letter first second) sz)) 0 0 (va_A (modelW cyI m0 m1 m2 m3 m4 m5 m6 state history recorded slots isSaved pad padLength opened pos letter first second) sz) := by
  refine Met.ofW (cc := cX8_whyNotThrown) (maxL := 4) (ret := (some .int)) (by decide) rfl ?_
  intro p e s m args below meth c s₁ B hml hv
  obtain ⟨rfl, hsz, hP, hK, hD0⟩ := hv
  have hx := B.exec
  have hb := B.bytes
  have hr := B.returns
  have hts := atoms_spec (ws := wsG yX8_whyNotThrown cX8_whyNotThrown 4 (some .int)) B.pre
  have hown : s.vm.findClass RX8 = some m.cls := findClass_of_methodNamed B.named
  have hlocks := B.notSynchronized
  subst hsz
  have hD := hD0.self (sz := s.heap.size)
  generalize hAe : va_A (modelW cyI m0 m1 m2 m3 m4 m5 m6 state history recorded slots isSaved pad padLength opened pos letter first second) s.heap.size = A at hD ⊢
  have hA : ∀ q : Nat, s.heap.size ≤ q → A q := fun q h => by rw [← hAe]; exact Or.inr h
  have hS : va_S A s.heap s.heap [] := va_S.rf
  have kB4 : ∀ (fuel : Nat) (state : Nat → Int32) (y1 : Int32) (y2 : Int32) (y3 : Int32), fX8_whyNotThrown_b4 fuel state y1 y2 y3 = some res → ∀ (H : Heap) (locs : List Loc), va_P (dC, dI) vwCl (modelW cyI m0 m1 m2 m3 m4 m5 m6 state history recorded slots isSaved pad padLength opened pos letter first second) H → va_D A (modelW cyI m0 m1 m2 m3 m4 m5 m6 state history recorded slots isSaved pad padLength opened pos letter first second) → va_S A s.heap H locs → ∀ ls : Array Slot, lv_has ls 4 [(0, .ref m0), (1, .int y1), (2, .int y2), (3, .int y3)] → W p l e (headSpec (wsG yX8_whyNotThrown cX8_whyNotThrown 4 (some .int)) ({ frames := 4, cells := 0, slots := 0, locals := 91 })).room s m (([.ref m0, .int x1] : List Value).toArray) below meth c H locs 0 0 (MQ below (cI dC dI res (modelW cyI m0 m1 m2 m3 m4 m5 m6 state history recorded slots isSaved pad padLength opened pos letter first second) A) ([.ref m0, .int x1] : List Value).toArray s 0 0 A) (F0 m 4 ls []) := by
    intro fuel
    induction fuel with
    | zero => intro state y1 y2 y3 h; rw [fX8_whyNotThrown_b4] at h; cases h
    | succ fuel ih =>
      intro state y1 y2 y3 h H locs hP hD hS ls hl
      rw [fX8_whyNotThrown_b4] at h
      refine lv_iload_n hx hb dX8_whyNotThrown_4 rfl (lv_at hl 3 rfl) ?_
      refine lv_bipush (v := (-6)) hx hb dX8_whyNotThrown_5 (by decide) ?_
      refine lv_icmp_eq (tgt := 39) hx hb dX8_whyNotThrown_7 (by decide) (fun c1 => ?_) (fun c1 => ?_)
      · have h := (if_pos c1).symm.trans h
        refine lv_aload_n hx hb dX8_whyNotThrown_39 rfl (lv_at hl 0 rfl) ?_
        refine va_get (D := (dC, dI)) (ci := 8) (v := .ref m1) (C := RX8) (T := TX8) (N := 12) hx hb hts (fun w h9 => gb_mem (lay_X8 w h9)) hown hK.1 hP 0 rfl rfl 0 (by decide) (hts _ (gb_mem fl_X8_7)) (fun _ h9 => h9) rfl dX8_whyNotThrown_40 ?_
        refine lv_iconst (v := 3) hx hb dX8_whyNotThrown_43 (by decide) ?_
        obtain ⟨ni2, h⟩ := ifn h
        refine va_iald hx hb hK.1 hP 1 0 rfl rfl ni2 dX8_whyNotThrown_44 ?_
        refine lv_iload_n hx hb dX8_whyNotThrown_45 rfl (lv_at hl 2 rfl) ?_
        refine lv_iadd hx hb dX8_whyNotThrown_46 ?_
        refine lv_bipush (v := 120) hx hb dX8_whyNotThrown_47 (by decide) ?_
        refine lv_icmp_le (tgt := 57) hx hb dX8_whyNotThrown_49 (by decide) (fun c3 => ?_) (fun c3 => ?_)
        · have h := (if_pos c3).symm.trans h
          refine lv_aload_n hx hb dX8_whyNotThrown_57 rfl (lv_at hl 0 rfl) ?_
          refine lv_iload_n hx hb dX8_whyNotThrown_58 rfl (lv_at hl 1 rfl) ?_
          obtain ⟨q4, e5, h⟩ := ob h
          refine fr_ir (M := (modelW cyI m0 m1 m2 m3 m4 m5 m6 state history recorded slots isSaved pad padLength opened pos letter first second)) (va_runV (As := [.int y1]) (rest := []) ⟨hx, hb, hml, hown, hts⟩ (mX8_throwMakes l dC dI cyI cyO m0 m1 m2 m3 m4 m5 m6 state history recorded slots isSaved pad padLength opened pos letter first second y1 _ q4 e5) (cwV 1 hts (gV ml_X8_153 im_X8_throwMakes se_X8_throwMakes in_X8 co_X8_throwMakes) rfl rfl rfl (by decide +kernel) ⟨Nat.le_of_ble_eq_true rfl, Nat.le_of_ble_eq_true rfl⟩) (cP_V hK hP hD [0, 1, 2, 3, 4, 5, 6] rfl rfl 0 rfl rfl) rfl rfl hl.1 rfl (lv_room (Nat.le_of_ble_eq_true rfl)) dX8_whyNotThrown_59 ⟨Nat.zero_le _, Nat.zero_le _⟩) hP hD hS hA [0, 1, 2, 3, 4, 5, 6] rfl (fun H locs hP hS => ?_)
          refine lv_if_ge (tgt := 70) hx hb dX8_whyNotThrown_62 (by decide) (fun c6 => ?_) (fun c6 => ?_)
          · have h := (if_pos c6).symm.trans h
            refine lv_iconst (v := 0) hx hb dX8_whyNotThrown_70 (by decide) ?_
            obtain rfl := Option.some.inj h
            exact e_i hx hb hr hlocks hP hS dX8_whyNotThrown_71
          · have h := (if_neg c6).symm.trans h
            refine lv_bipush (v := (-5)) hx hb dX8_whyNotThrown_65 (by decide) ?_
            refine lv_goto (tgt := 71) hx hb dX8_whyNotThrown_67 (by decide) ?_
            obtain rfl := Option.some.inj h
            exact e_i hx hb hr hlocks hP hS dX8_whyNotThrown_71
        · have h := (if_neg c3).symm.trans h
          refine lv_bipush (v := (-4)) hx hb dX8_whyNotThrown_52 (by decide) ?_
          refine lv_goto (tgt := 71) hx hb dX8_whyNotThrown_54 (by decide) ?_
          obtain rfl := Option.some.inj h
          exact e_i hx hb hr hlocks hP hS dX8_whyNotThrown_71
      · have h := (if_neg c1).symm.trans h
        refine lv_iload_n hx hb dX8_whyNotThrown_10 rfl (lv_at hl 2 rfl) ?_
        refine lv_aload_n hx hb dX8_whyNotThrown_11 rfl (lv_at hl 0 rfl) ?_
        refine lv_iload_n hx hb dX8_whyNotThrown_12 rfl (lv_at hl 3 rfl) ?_
        obtain ⟨q7, e8, h⟩ := ob h
        refine fr_ir (M := (modelW cyI m0 m1 m2 m3 m4 m5 m6 state history recorded slots isSaved pad padLength opened pos letter first second)) (va_runV (As := [.int y3]) (rest := [.int y2]) ⟨hx, hb, hml, hown, hts⟩ (mX8_hangingFrom l dC dI cyI cyO m0 m1 m2 m3 m4 m5 m6 state history recorded slots isSaved pad padLength opened pos letter first second y3 _ q7 e8) (cwV 1 hts (gV ml_X8_132 im_X8_hangingFrom se_X8_hangingFrom in_X8 co_X8_hangingFrom) rfl rfl rfl (by decide +kernel) ⟨Nat.le_of_ble_eq_true rfl, Nat.le_of_ble_eq_true rfl⟩) (cP_V hK hP hD [0, 1, 2, 3, 4, 5, 6] rfl rfl 0 rfl rfl) rfl rfl hl.1 rfl (lv_room (Nat.le_of_ble_eq_true rfl)) dX8_whyNotThrown_13 ⟨Nat.zero_le _, Nat.zero_le _⟩) hP hD hS hA [0, 1, 2, 3, 4, 5, 6] rfl (fun H locs hP hS => ?_)
        refine lv_iload_n hx hb dX8_whyNotThrown_16 rfl (lv_at hl 3 rfl) ?_
        refine lv_iload_n hx hb dX8_whyNotThrown_17 rfl (lv_at hl 1 rfl) ?_
        refine lv_icmp_ne (tgt := 25) hx hb dX8_whyNotThrown_18 (by decide) (fun c9 => ?_) (fun c9 => ?_)
        · have h := (if_neg c9).symm.trans h
          refine lv_iconst (v := 0) hx hb dX8_whyNotThrown_25 (by decide) ?_
          refine lv_isub hx hb dX8_whyNotThrown_26 ?_
          refine lv_iadd hx hb dX8_whyNotThrown_27 ?_
          refine lv_istore_n (lv' := [(2, .int (y2 + (q7 - 0))), (0, .ref m0), (1, .int y1), (3, .int y3)]) hx hb dX8_whyNotThrown_28 rfl hl (by decide) rfl (fun ls hl => ?_)
          refine lv_aload_n hx hb dX8_whyNotThrown_29 rfl (lv_at hl 1 rfl) ?_
          refine lv_iload_n hx hb dX8_whyNotThrown_30 rfl (lv_at hl 3 rfl) ?_
          refine lv_iconst (v := 0) hx hb dX8_whyNotThrown_31 (by decide) ?_
          obtain ⟨q10, e11, h⟩ := ob h
          refine fr_ir (M := (modelW cyI m0 m1 m2 m3 m4 m5 m6 state history recorded slots isSaved pad padLength opened pos letter first second)) (va_runV (As := [.int y3, .int 0]) (rest := []) ⟨hx, hb, hml, hown, hts⟩ (mX8_keyPart l dC dI cyI cyO m0 m1 m2 m3 m4 m5 m6 state history recorded slots isSaved pad padLength opened pos letter first second y3 0 _ q10 e11) (cwV 2 hts (gV ml_X8_44 im_X8_keyPart se_X8_keyPart in_X8 co_X8_keyPart) rfl rfl rfl (by decide +kernel) ⟨Nat.le_of_ble_eq_true rfl, Nat.le_of_ble_eq_true rfl⟩) (cP_V hK hP hD [0, 1, 2, 3, 4, 5, 6] rfl rfl 0 rfl rfl) rfl rfl hl.1 rfl (lv_room (Nat.le_of_ble_eq_true rfl)) dX8_whyNotThrown_32 ⟨Nat.zero_le _, Nat.zero_le _⟩) hP hD hS hA [0, 1, 2, 3, 4, 5, 6] rfl (fun H locs hP hS => ?_)
          refine lv_istore_n (lv' := [(3, .int q10), (2, .int (y2 + (q7 - 0))), (0, .ref m0), (1, .int y1)]) hx hb dX8_whyNotThrown_35 rfl hl (by decide) rfl (fun ls hl => ?_)
          refine lv_goto (tgt := 4) hx hb dX8_whyNotThrown_36 (by decide) ?_
          exact ih state y1 (y2 + (q7 - 0)) q10 h _ _ hP hD hS ls (lv_sub hl [2, 3, 1, 0] rfl)
        · have h := (if_pos c9).symm.trans h
          refine lv_iconst (v := 1) hx hb dX8_whyNotThrown_21 (by decide) ?_
          refine lv_goto (tgt := 26) hx hb dX8_whyNotThrown_22 (by decide) ?_
          refine lv_isub hx hb dX8_whyNotThrown_26 ?_
          refine lv_iadd hx hb dX8_whyNotThrown_27 ?_
          refine lv_istore_n (lv' := [(2, .int (y2 + (q7 - 1))), (0, .ref m0), (1, .int y1), (3, .int y3)]) hx hb dX8_whyNotThrown_28 rfl hl (by decide) rfl (fun ls hl => ?_)
          refine lv_aload_n hx hb dX8_whyNotThrown_29 rfl (lv_at hl 1 rfl) ?_
          refine lv_iload_n hx hb dX8_whyNotThrown_30 rfl (lv_at hl 3 rfl) ?_
          refine lv_iconst (v := 0) hx hb dX8_whyNotThrown_31 (by decide) ?_
          obtain ⟨q12, e13, h⟩ := ob h
          refine fr_ir (M := (modelW cyI m0 m1 m2 m3 m4 m5 m6 state history recorded slots isSaved pad padLength opened pos letter first second)) (va_runV (As := [.int y3, .int 0]) (rest := []) ⟨hx, hb, hml, hown, hts⟩ (mX8_keyPart l dC dI cyI cyO m0 m1 m2 m3 m4 m5 m6 state history recorded slots isSaved pad padLength opened pos letter first second y3 0 _ q12 e13) (cwV 2 hts (gV ml_X8_44 im_X8_keyPart se_X8_keyPart in_X8 co_X8_keyPart) rfl rfl rfl (by decide +kernel) ⟨Nat.le_of_ble_eq_true rfl, Nat.le_of_ble_eq_true rfl⟩) (cP_V hK hP hD [0, 1, 2, 3, 4, 5, 6] rfl rfl 0 rfl rfl) rfl rfl hl.1 rfl (lv_room (Nat.le_of_ble_eq_true rfl)) dX8_whyNotThrown_32 ⟨Nat.zero_le _, Nat.zero_le _⟩) hP hD hS hA [0, 1, 2, 3, 4, 5, 6] rfl (fun H locs hP hS => ?_)
          refine lv_istore_n (lv' := [(3, .int q12), (2, .int (y2 + (q7 - 1))), (0, .ref m0), (1, .int y1)]) hx hb dX8_whyNotThrown_35 rfl hl (by decide) rfl (fun ls hl => ?_)
          refine lv_goto (tgt := 4) hx hb dX8_whyNotThrown_36 (by decide) ?_
          exact ih state y1 (y2 + (q7 - 1)) q12 h _ _ hP hD hS ls (lv_sub hl [2, 3, 1, 0] rfl)
  have hl := lv_entry ([.ref m0, .int x1]) (n := 4) (Nat.le_of_ble_eq_true rfl)
  rw [lg_entry_eq]
  generalize (lg_sl ([.ref m0, .int x1]) ++ List.replicate (4 - (lg_sl ([.ref m0, .int x1])).length) Slot.unset).toArray = ls at hl ⊢
  have hl : lv_has ls 4 [(0, .ref m0), (1, .int x1)] := hl
  unfold fX8_whyNotThrown at h
  refine lv_iconst (v := 0) hx hb dX8_whyNotThrown_0 (by decide) ?_
  refine lv_istore_n (lv' := [(2, .int 0), (0, .ref m0), (1, .int x1)]) hx hb dX8_whyNotThrown_1 rfl hl (by decide) rfl (fun ls hl => ?_)
  refine lv_iload_n hx hb dX8_whyNotThrown_2 rfl (lv_at hl 2 rfl) ?_
  refine lv_istore_n (lv' := [(3, .int x1), (2, .int 0), (0, .ref m0), (1, .int x1)]) hx hb dX8_whyNotThrown_3 rfl hl (by decide) rfl (fun ls hl => ?_)
  exact kB4 6000 state x1 0 x1 h _ _ hP hD hS ls (lv_sub hl [2, 3, 1, 0] rfl)
noncomputable def fX8_makesAboveAnew_b43 : Nat → (Nat → Int32) → Int32 → Int32 → Option ((Nat → Int32))
  | 0, _, _, _ => none
  | fuel + 1, state, y1, y2 =>
  (if y2 < 0 then (some state) else ((fX8_higher state y1 y2).bind fun q2 => ((fX8_wrapAllUnder state q2).bind fun q4 => fX8_makesAboveAnew_b43 fuel q4 y1 (y2 + (-1)))))

noncomputable def fX8_makesAboveAnew_b2 : Nat → (Nat → Int32) → Int32 → Int32 → Option ((Nat → Int32))
  | 0, _, _, _ => none
  | fuel + 1, state, y1, y2 =>
  (if y2 = (-6) then ((fX8_burns state).bind fun q7 => (if y1 = (-6) then fX8_makesAboveAnew_b43 6000 q7 y1 (-1) else ((fX8_above q7 y1).bind fun q10 => fX8_makesAboveAnew_b43 6000 q7 y1 q10))) else ((fX8_makesAnew state y2).bind fun q12 => ((fX8_keyPart q12 y2 0).bind fun q14 => fX8_makesAboveAnew_b2 fuel q12 y1 q14)))

noncomputable def fX8_makesAboveAnew (state : Nat → Int32) (x1 : Int32) : Option ((Nat → Int32)) :=
  fX8_makesAboveAnew_b2 6000 state x1 x1
set_option maxHeartbeats 1000000 in
set_option maxRecDepth 100000 in
theorem mX8_makesAboveAnew (l : Launch) (dC : Nat → ClassId) (dI : Nat → Nat → Nat) (cyI cyO : ClassId) (m0 m1 m2 m3 m4 m5 m6 : Nat) (state : Nat → Int32) (history : Nat → Int32) (recorded : Int32) (slots : Nat → Int32) (isSaved : Nat → Int32) (pad : Nat → Int32) (padLength : Int32) (opened : Nat → Int32) (pos : Int32) (letter : Int32) (first : Int32) (second : Int32) (x1 : Int32) (sz : Nat) (res : (Nat → Int32)) (h : fX8_makesAboveAnew state x1 = some res) : Met l yX8_makesAboveAnew (wsG yX8_makesAboveAnew cX8_makesAboveAnew 3 none) ({ frames := 4, cells := 0, slots := 0, locals := 90 }) (cP dC dI cyI cyO sz [.ref m0, .int x1] (modelW cyI m0 m1 m2 m3 m4 m5 m6 state history recorded slots isSaved pad padLength opened pos letter first second)) (cV dC dI (modelW cyI m0 m1 m2 m3 m4 m5 m6 res history recorded slots isSaved pad padLength opened pos letter first second) (va_A (modelW cyI m0 m1 m2 m3 m4 m5 m6 state history recorded slots isSaved pad padLength opened pos letter first second) sz)) 0 0 (va_A (modelW cyI m0 m1 m2 m3 m4 m5 m6 state history recorded slots isSaved pad padLength opened pos letter first second) sz) := by
  refine Met.ofW (cc := cX8_makesAboveAnew) (maxL := 3) (ret := none) (by decide) rfl ?_
  intro p e s m args below meth c s₁ B hml hv
  obtain ⟨rfl, hsz, hP, hK, hD0⟩ := hv
  have hx := B.exec
  have hb := B.bytes
  have hr := B.returns
  have hts := atoms_spec (ws := wsG yX8_makesAboveAnew cX8_makesAboveAnew 3 none) B.pre
  have hown : s.vm.findClass RX8 = some m.cls := findClass_of_methodNamed B.named
  have hlocks := B.notSynchronized
  subst hsz
  have hD := hD0.self (sz := s.heap.size)
  generalize hAe : va_A (modelW cyI m0 m1 m2 m3 m4 m5 m6 state history recorded slots isSaved pad padLength opened pos letter first second) s.heap.size = A at hD ⊢
  have hA : ∀ q : Nat, s.heap.size ≤ q → A q := fun q h => by rw [← hAe]; exact Or.inr h
  have hS : va_S A s.heap s.heap [] := va_S.rf
  have kB43 : ∀ (fuel : Nat) (state : Nat → Int32) (y1 : Int32) (y2 : Int32), fX8_makesAboveAnew_b43 fuel state y1 y2 = some res → ∀ (H : Heap) (locs : List Loc), va_P (dC, dI) vwCl (modelW cyI m0 m1 m2 m3 m4 m5 m6 state history recorded slots isSaved pad padLength opened pos letter first second) H → va_D A (modelW cyI m0 m1 m2 m3 m4 m5 m6 state history recorded slots isSaved pad padLength opened pos letter first second) → va_S A s.heap H locs → ∀ ls : Array Slot, lv_has ls 3 [(0, .ref m0), (1, .int y1), (2, .int y2)] → W p l e (headSpec (wsG yX8_makesAboveAnew cX8_makesAboveAnew 3 none) ({ frames := 4, cells := 0, slots := 0, locals := 90 })).room s m (([.ref m0, .int x1] : List Value).toArray) below meth c H locs 0 0 (MQ below (cV dC dI (modelW cyI m0 m1 m2 m3 m4 m5 m6 res history recorded slots isSaved pad padLength opened pos letter first second) A) ([.ref m0, .int x1] : List Value).toArray s 0 0 A) (F0 m 43 ls []) := by
    intro fuel
    induction fuel with
    | zero => intro state y1 y2 h; rw [fX8_makesAboveAnew_b43] at h; cases h
    | succ fuel ih =>
      intro state y1 y2 h H locs hP hD hS ls hl
      rw [fX8_makesAboveAnew_b43] at h
      refine lv_iload_n hx hb dX8_makesAboveAnew_43 rfl (lv_at hl 2 rfl) ?_
      refine lv_if_lt (tgt := 63) hx hb dX8_makesAboveAnew_44 (by decide) (fun c1 => ?_) (fun c1 => ?_)
      · have h := (if_pos c1).symm.trans h
        obtain rfl := Option.some.inj h
        exact e_v hx hb hr hlocks hP hS dX8_makesAboveAnew_63
      · have h := (if_neg c1).symm.trans h
        refine lv_aload_n hx hb dX8_makesAboveAnew_47 rfl (lv_at hl 0 rfl) ?_
        refine lv_aload_n hx hb dX8_makesAboveAnew_48 rfl (lv_at hl 0 rfl) ?_
        refine lv_iload_n hx hb dX8_makesAboveAnew_49 rfl (lv_at hl 1 rfl) ?_
        refine lv_iload_n hx hb dX8_makesAboveAnew_50 rfl (lv_at hl 2 rfl) ?_
        obtain ⟨q2, e3, h⟩ := ob h
        refine fr_ir (M := (modelW cyI m0 m1 m2 m3 m4 m5 m6 state history recorded slots isSaved pad padLength opened pos letter first second)) (va_runV (As := [.int y1, .int y2]) (rest := [.ref m0]) ⟨hx, hb, hml, hown, hts⟩ (mX8_higher l dC dI cyI cyO m0 m1 m2 m3 m4 m5 m6 state history recorded slots isSaved pad padLength opened pos letter first second y1 y2 _ q2 e3) (cwV 2 hts (gV ml_X8_159 im_X8_higher se_X8_higher in_X8 co_X8_higher) rfl rfl rfl (by decide +kernel) ⟨Nat.le_of_ble_eq_true rfl, Nat.le_of_ble_eq_true rfl⟩) (cP_V hK hP hD [0, 1, 2, 3, 4, 5, 6] rfl rfl 0 rfl rfl) rfl rfl hl.1 rfl (lv_room (Nat.le_of_ble_eq_true rfl)) dX8_makesAboveAnew_51 ⟨Nat.zero_le _, Nat.zero_le _⟩) hP hD hS hA [0, 1, 2, 3, 4, 5, 6] rfl (fun H locs hP hS => ?_)
        obtain ⟨q4, e5, h⟩ := ob h
        refine fr_v (M := (modelW cyI m0 m1 m2 m3 m4 m5 m6 state history recorded slots isSaved pad padLength opened pos letter first second)) (M' := (modelW cyI m0 m1 m2 m3 m4 m5 m6 q4 history recorded slots isSaved pad padLength opened pos letter first second)) (L' := (modelW cyI m0 m1 m2 m3 m4 m5 m6 q4 history recorded slots isSaved pad padLength opened pos letter first second)) (va_runV (As := [.int q2]) (rest := []) ⟨hx, hb, hml, hown, hts⟩ (mX8_wrapAllUnder l dC dI cyI cyO m0 m1 m2 m3 m4 m5 m6 state history recorded slots isSaved pad padLength opened pos letter first second q2 _ q4 e5) (cwV 1 hts (gV ml_X8_144 im_X8_wrapAllUnder se_X8_wrapAllUnder in_X8 co_X8_wrapAllUnder) rfl rfl rfl (by decide +kernel) ⟨Nat.le_of_ble_eq_true rfl, Nat.le_of_ble_eq_true rfl⟩) (cP_V hK hP hD [0, 1, 2, 3, 4, 5, 6] rfl rfl 0 rfl rfl) rfl rfl hl.1 rfl (lv_room (Nat.le_of_ble_eq_true rfl)) dX8_makesAboveAnew_54 ⟨Nat.zero_le _, Nat.zero_le _⟩) hP hD hS hA [0, 1, 2, 3, 4, 5, 6] rfl [(true, 0), (true, 1), (true, 2), (true, 3), (true, 4), (true, 5), (true, 6)] rfl rfl rfl (fun H locs hP hD hS => ?_)
        refine lv_iinc (v := (y2 + (-1))) (lv' := [(2, .int (y2 + (-1))), (0, .ref m0), (1, .int y1)]) hx hb dX8_makesAboveAnew_57 hl (k := 2) rfl rfl (by decide) rfl (fun ls hl => ?_)
        refine lv_goto (tgt := 43) hx hb dX8_makesAboveAnew_60 (by decide) ?_
        exact ih q4 y1 (y2 + (-1)) h _ _ hP hD hS ls (lv_sub hl [1, 2, 0] rfl)
  have kB2 : ∀ (fuel : Nat) (state : Nat → Int32) (y1 : Int32) (y2 : Int32), fX8_makesAboveAnew_b2 fuel state y1 y2 = some res → ∀ (H : Heap) (locs : List Loc), va_P (dC, dI) vwCl (modelW cyI m0 m1 m2 m3 m4 m5 m6 state history recorded slots isSaved pad padLength opened pos letter first second) H → va_D A (modelW cyI m0 m1 m2 m3 m4 m5 m6 state history recorded slots isSaved pad padLength opened pos letter first second) → va_S A s.heap H locs → ∀ ls : Array Slot, lv_has ls 3 [(0, .ref m0), (1, .int y1), (2, .int y2)] → W p l e (headSpec (wsG yX8_makesAboveAnew cX8_makesAboveAnew 3 none) ({ frames := 4, cells := 0, slots := 0, locals := 90 })).room s m (([.ref m0, .int x1] : List Value).toArray) below meth c H locs 0 0 (MQ below (cV dC dI (modelW cyI m0 m1 m2 m3 m4 m5 m6 res history recorded slots isSaved pad padLength opened pos letter first second) A) ([.ref m0, .int x1] : List Value).toArray s 0 0 A) (F0 m 2 ls []) := by
    intro fuel
    induction fuel with
    | zero => intro state y1 y2 h; rw [fX8_makesAboveAnew_b2] at h; cases h
    | succ fuel ih =>
      intro state y1 y2 h H locs hP hD hS ls hl
      rw [fX8_makesAboveAnew_b2] at h
      refine lv_iload_n hx hb dX8_makesAboveAnew_2 rfl (lv_at hl 2 rfl) ?_
      refine lv_bipush (v := (-6)) hx hb dX8_makesAboveAnew_3 (by decide) ?_
      refine lv_icmp_eq (tgt := 23) hx hb dX8_makesAboveAnew_5 (by decide) (fun c6 => ?_) (fun c6 => ?_)
      · have h := (if_pos c6).symm.trans h
        refine lv_aload_n hx hb dX8_makesAboveAnew_23 rfl (lv_at hl 0 rfl) ?_
        obtain ⟨q7, e8, h⟩ := ob h
        refine fr_v (M := (modelW cyI m0 m1 m2 m3 m4 m5 m6 state history recorded slots isSaved pad padLength opened pos letter first second)) (M' := (modelW cyI m0 m1 m2 m3 m4 m5 m6 q7 history recorded slots isSaved pad padLength opened pos letter first second)) (L' := (modelW cyI m0 m1 m2 m3 m4 m5 m6 q7 history recorded slots isSaved pad padLength opened pos letter first second)) (va_runV (As := []) (rest := []) ⟨hx, hb, hml, hown, hts⟩ (mX8_burns l dC dI cyI cyO m0 m1 m2 m3 m4 m5 m6 state history recorded slots isSaved pad padLength opened pos letter first second _ q7 e8) (cwV 0 hts (gV ml_X8_141 im_X8_burns se_X8_burns in_X8 co_X8_burns) rfl rfl rfl (by decide +kernel) ⟨Nat.le_of_ble_eq_true rfl, Nat.le_of_ble_eq_true rfl⟩) (cP_V hK hP hD [0, 1, 2, 3, 4, 5, 6] rfl rfl 0 rfl rfl) rfl rfl hl.1 rfl (lv_room (Nat.le_of_ble_eq_true rfl)) dX8_makesAboveAnew_24 ⟨Nat.zero_le _, Nat.zero_le _⟩) hP hD hS hA [0, 1, 2, 3, 4, 5, 6] rfl [(true, 0), (true, 1), (true, 2), (true, 3), (true, 4), (true, 5), (true, 6)] rfl rfl rfl (fun H locs hP hD hS => ?_)
        refine lv_iload_n hx hb dX8_makesAboveAnew_27 rfl (lv_at hl 1 rfl) ?_
        refine lv_bipush (v := (-6)) hx hb dX8_makesAboveAnew_28 (by decide) ?_
        refine lv_icmp_ne (tgt := 37) hx hb dX8_makesAboveAnew_30 (by decide) (fun c9 => ?_) (fun c9 => ?_)
        · have h := (if_neg c9).symm.trans h
          refine lv_aload_n hx hb dX8_makesAboveAnew_37 rfl (lv_at hl 0 rfl) ?_
          refine lv_iload_n hx hb dX8_makesAboveAnew_38 rfl (lv_at hl 1 rfl) ?_
          obtain ⟨q10, e11, h⟩ := ob h
          refine fr_ir (M := (modelW cyI m0 m1 m2 m3 m4 m5 m6 q7 history recorded slots isSaved pad padLength opened pos letter first second)) (va_runV (As := [.int y1]) (rest := []) ⟨hx, hb, hml, hown, hts⟩ (mX8_above l dC dI cyI cyO m0 m1 m2 m3 m4 m5 m6 q7 history recorded slots isSaved pad padLength opened pos letter first second y1 _ q10 e11) (cwV 1 hts (gV ml_X8_156 im_X8_above se_X8_above in_X8 co_X8_above) rfl rfl rfl (by decide +kernel) ⟨Nat.le_of_ble_eq_true rfl, Nat.le_of_ble_eq_true rfl⟩) (cP_V hK hP hD [0, 1, 2, 3, 4, 5, 6] rfl rfl 0 rfl rfl) rfl rfl hl.1 rfl (lv_room (Nat.le_of_ble_eq_true rfl)) dX8_makesAboveAnew_39 ⟨Nat.zero_le _, Nat.zero_le _⟩) hP hD hS hA [0, 1, 2, 3, 4, 5, 6] rfl (fun H locs hP hS => ?_)
          refine lv_istore_n (lv' := [(2, .int q10), (0, .ref m0), (1, .int y1)]) hx hb dX8_makesAboveAnew_42 rfl hl (by decide) rfl (fun ls hl => ?_)
          exact kB43 6000 q7 y1 q10 h _ _ hP hD hS ls (lv_sub hl [1, 2, 0] rfl)
        · have h := (if_pos c9).symm.trans h
          refine lv_iconst (v := (-1)) hx hb dX8_makesAboveAnew_33 (by decide) ?_
          refine lv_goto (tgt := 42) hx hb dX8_makesAboveAnew_34 (by decide) ?_
          refine lv_istore_n (lv' := [(2, .int (-1)), (0, .ref m0), (1, .int y1)]) hx hb dX8_makesAboveAnew_42 rfl hl (by decide) rfl (fun ls hl => ?_)
          exact kB43 6000 q7 y1 (-1) h _ _ hP hD hS ls (lv_sub hl [1, 2, 0] rfl)
      · have h := (if_neg c6).symm.trans h
        refine lv_aload_n hx hb dX8_makesAboveAnew_8 rfl (lv_at hl 0 rfl) ?_
        refine lv_iload_n hx hb dX8_makesAboveAnew_9 rfl (lv_at hl 2 rfl) ?_
        obtain ⟨q12, e13, h⟩ := ob h
        refine fr_v (M := (modelW cyI m0 m1 m2 m3 m4 m5 m6 state history recorded slots isSaved pad padLength opened pos letter first second)) (M' := (modelW cyI m0 m1 m2 m3 m4 m5 m6 q12 history recorded slots isSaved pad padLength opened pos letter first second)) (L' := (modelW cyI m0 m1 m2 m3 m4 m5 m6 q12 history recorded slots isSaved pad padLength opened pos letter first second)) (va_runV (As := [.int y2]) (rest := []) ⟨hx, hb, hml, hown, hts⟩ (mX8_makesAnew l dC dI cyI cyO m0 m1 m2 m3 m4 m5 m6 state history recorded slots isSaved pad padLength opened pos letter first second y2 _ q12 e13) (cwV 1 hts (gV ml_X8_138 im_X8_makesAnew se_X8_makesAnew in_X8 co_X8_makesAnew) rfl rfl rfl (by decide +kernel) ⟨Nat.le_of_ble_eq_true rfl, Nat.le_of_ble_eq_true rfl⟩) (cP_V hK hP hD [0, 1, 2, 3, 4, 5, 6] rfl rfl 0 rfl rfl) rfl rfl hl.1 rfl (lv_room (Nat.le_of_ble_eq_true rfl)) dX8_makesAboveAnew_10 ⟨Nat.zero_le _, Nat.zero_le _⟩) hP hD hS hA [0, 1, 2, 3, 4, 5, 6] rfl [(true, 0), (true, 1), (true, 2), (true, 3), (true, 4), (true, 5), (true, 6)] rfl rfl rfl (fun H locs hP hD hS => ?_)
        refine lv_aload_n hx hb dX8_makesAboveAnew_13 rfl (lv_at hl 0 rfl) ?_
        refine lv_iload_n hx hb dX8_makesAboveAnew_14 rfl (lv_at hl 2 rfl) ?_
        refine lv_iconst (v := 0) hx hb dX8_makesAboveAnew_15 (by decide) ?_
        obtain ⟨q14, e15, h⟩ := ob h
        refine fr_ir (M := (modelW cyI m0 m1 m2 m3 m4 m5 m6 q12 history recorded slots isSaved pad padLength opened pos letter first second)) (va_runV (As := [.int y2, .int 0]) (rest := []) ⟨hx, hb, hml, hown, hts⟩ (mX8_keyPart l dC dI cyI cyO m0 m1 m2 m3 m4 m5 m6 q12 history recorded slots isSaved pad padLength opened pos letter first second y2 0 _ q14 e15) (cwV 2 hts (gV ml_X8_44 im_X8_keyPart se_X8_keyPart in_X8 co_X8_keyPart) rfl rfl rfl (by decide +kernel) ⟨Nat.le_of_ble_eq_true rfl, Nat.le_of_ble_eq_true rfl⟩) (cP_V hK hP hD [0, 1, 2, 3, 4, 5, 6] rfl rfl 0 rfl rfl) rfl rfl hl.1 rfl (lv_room (Nat.le_of_ble_eq_true rfl)) dX8_makesAboveAnew_16 ⟨Nat.zero_le _, Nat.zero_le _⟩) hP hD hS hA [0, 1, 2, 3, 4, 5, 6] rfl (fun H locs hP hS => ?_)
        refine lv_istore_n (lv' := [(2, .int q14), (0, .ref m0), (1, .int y1)]) hx hb dX8_makesAboveAnew_19 rfl hl (by decide) rfl (fun ls hl => ?_)
        refine lv_goto (tgt := 2) hx hb dX8_makesAboveAnew_20 (by decide) ?_
        exact ih q12 y1 q14 h _ _ hP hD hS ls (lv_sub hl [1, 2, 0] rfl)
  have hl := lv_entry ([.ref m0, .int x1]) (n := 3) (Nat.le_of_ble_eq_true rfl)
  rw [lg_entry_eq]
  generalize (lg_sl ([.ref m0, .int x1]) ++ List.replicate (3 - (lg_sl ([.ref m0, .int x1])).length) Slot.unset).toArray = ls at hl ⊢
  have hl : lv_has ls 3 [(0, .ref m0), (1, .int x1)] := hl
  unfold fX8_makesAboveAnew at h
  refine lv_iload_n hx hb dX8_makesAboveAnew_0 rfl (lv_at hl 1 rfl) ?_
  refine lv_istore_n (lv' := [(2, .int x1), (0, .ref m0), (1, .int x1)]) hx hb dX8_makesAboveAnew_1 rfl hl (by decide) rfl (fun ls hl => ?_)
  exact kB2 6000 state x1 x1 h _ _ hP hD hS ls (lv_sub hl [1, 2, 0] rfl)

noncomputable def fX8_whyKeyNotThrown (state : Nat → Int32) (x1 : Int32) : Option (Int32) :=
  ((fX8_isLiveKey state x1).bind fun q1 => (if q1 = 0 then (some (-1)) else ((fX8_keyPart state x1 0).bind fun q4 => ((fX8_whyNotThrown state q4).bind fun q6 => (some q6)))))
set_option maxHeartbeats 1000000 in
set_option maxRecDepth 100000 in
theorem mX8_whyKeyNotThrown (l : Launch) (dC : Nat → ClassId) (dI : Nat → Nat → Nat) (cyI cyO : ClassId) (m0 m1 m2 m3 m4 m5 m6 : Nat) (state : Nat → Int32) (history : Nat → Int32) (recorded : Int32) (slots : Nat → Int32) (isSaved : Nat → Int32) (pad : Nat → Int32) (padLength : Int32) (opened : Nat → Int32) (pos : Int32) (letter : Int32) (first : Int32) (second : Int32) (x1 : Int32) (sz : Nat) (res : Int32) (h : fX8_whyKeyNotThrown state x1 = some res) : Met l yX8_whyKeyNotThrown (wsG yX8_whyKeyNotThrown cX8_whyKeyNotThrown 2 (some .int)) ({ frames := 5, cells := 0, slots := 0, locals := 114 }) (cP dC dI cyI cyO sz [.ref m0, .int x1] (modelW cyI m0 m1 m2 m3 m4 m5 m6 state history recorded slots isSaved pad padLength opened pos letter first second)) (cI dC dI res (modelW cyI m0 m1 m2 m3 m4 m5 m6 state history recorded slots isSaved pad padLength opened pos letter first second) (va_A (modelW cyI m0 m1 m2 m3 m4 m5 m6 state history recorded slots isSaved pad padLength opened pos letter first second) sz)) 0 0 (va_A (modelW cyI m0 m1 m2 m3 m4 m5 m6 state history recorded slots isSaved pad padLength opened pos letter first second) sz) := by
  refine Met.ofW (cc := cX8_whyKeyNotThrown) (maxL := 2) (ret := (some .int)) (by decide) rfl ?_
  intro p e s m args below meth c s₁ B hml hv
  obtain ⟨rfl, hsz, hP, hK, hD0⟩ := hv
  have hx := B.exec
  have hb := B.bytes
  have hr := B.returns
  have hts := atoms_spec (ws := wsG yX8_whyKeyNotThrown cX8_whyKeyNotThrown 2 (some .int)) B.pre
  have hown : s.vm.findClass RX8 = some m.cls := findClass_of_methodNamed B.named
  have hlocks := B.notSynchronized
  subst hsz
  have hD := hD0.self (sz := s.heap.size)
  generalize hAe : va_A (modelW cyI m0 m1 m2 m3 m4 m5 m6 state history recorded slots isSaved pad padLength opened pos letter first second) s.heap.size = A at hD ⊢
  have hA : ∀ q : Nat, s.heap.size ≤ q → A q := fun q h => by rw [← hAe]; exact Or.inr h
  have hS : va_S A s.heap s.heap [] := va_S.rf
  have hl := lv_entry ([.ref m0, .int x1]) (n := 2) (Nat.le_of_ble_eq_true rfl)
  rw [lg_entry_eq]
  generalize (lg_sl ([.ref m0, .int x1]) ++ List.replicate (2 - (lg_sl ([.ref m0, .int x1])).length) Slot.unset).toArray = ls at hl ⊢
  have hl : lv_has ls 2 [(0, .ref m0), (1, .int x1)] := hl
  unfold fX8_whyKeyNotThrown at h
  refine lv_aload_n hx hb dX8_whyKeyNotThrown_0 rfl (lv_at hl 0 rfl) ?_
  refine lv_iload_n hx hb dX8_whyKeyNotThrown_1 rfl (lv_at hl 1 rfl) ?_
  obtain ⟨q1, e2, h⟩ := ob h
  refine fr_ir (M := (modelW cyI m0 m1 m2 m3 m4 m5 m6 state history recorded slots isSaved pad padLength opened pos letter first second)) (va_runV (As := [.int x1]) (rest := []) ⟨hx, hb, hml, hown, hts⟩ (mX8_isLiveKey l dC dI cyI cyO m0 m1 m2 m3 m4 m5 m6 state history recorded slots isSaved pad padLength opened pos letter first second x1 _ q1 e2) (cwV 1 hts (gV ml_X8_105 im_X8_isLiveKey se_X8_isLiveKey in_X8 co_X8_isLiveKey) rfl rfl rfl (by decide +kernel) ⟨Nat.le_of_ble_eq_true rfl, Nat.le_of_ble_eq_true rfl⟩) (cP_V hK hP hD [0, 1, 2, 3, 4, 5, 6] rfl rfl 0 rfl rfl) rfl rfl hl.1 rfl (lv_room (Nat.le_of_ble_eq_true rfl)) dX8_whyKeyNotThrown_2 ⟨Nat.zero_le _, Nat.zero_le _⟩) hP hD hS hA [0, 1, 2, 3, 4, 5, 6] rfl (fun H locs hP hS => ?_)
  refine lv_if_eq (tgt := 21) hx hb dX8_whyKeyNotThrown_5 (by decide) (fun c3 => ?_) (fun c3 => ?_)
  · have h := (if_pos c3).symm.trans h
    refine lv_iconst (v := (-1)) hx hb dX8_whyKeyNotThrown_21 (by decide) ?_
    obtain rfl := Option.some.inj h
    exact e_i hx hb hr hlocks hP hS dX8_whyKeyNotThrown_22
  · have h := (if_neg c3).symm.trans h
    refine lv_aload_n hx hb dX8_whyKeyNotThrown_8 rfl (lv_at hl 0 rfl) ?_
    refine lv_aload_n hx hb dX8_whyKeyNotThrown_9 rfl (lv_at hl 0 rfl) ?_
    refine lv_iload_n hx hb dX8_whyKeyNotThrown_10 rfl (lv_at hl 1 rfl) ?_
    refine lv_iconst (v := 0) hx hb dX8_whyKeyNotThrown_11 (by decide) ?_
    obtain ⟨q4, e5, h⟩ := ob h
    refine fr_ir (M := (modelW cyI m0 m1 m2 m3 m4 m5 m6 state history recorded slots isSaved pad padLength opened pos letter first second)) (va_runV (As := [.int x1, .int 0]) (rest := [.ref m0]) ⟨hx, hb, hml, hown, hts⟩ (mX8_keyPart l dC dI cyI cyO m0 m1 m2 m3 m4 m5 m6 state history recorded slots isSaved pad padLength opened pos letter first second x1 0 _ q4 e5) (cwV 2 hts (gV ml_X8_44 im_X8_keyPart se_X8_keyPart in_X8 co_X8_keyPart) rfl rfl rfl (by decide +kernel) ⟨Nat.le_of_ble_eq_true rfl, Nat.le_of_ble_eq_true rfl⟩) (cP_V hK hP hD [0, 1, 2, 3, 4, 5, 6] rfl rfl 0 rfl rfl) rfl rfl hl.1 rfl (lv_room (Nat.le_of_ble_eq_true rfl)) dX8_whyKeyNotThrown_12 ⟨Nat.zero_le _, Nat.zero_le _⟩) hP hD hS hA [0, 1, 2, 3, 4, 5, 6] rfl (fun H locs hP hS => ?_)
    obtain ⟨q6, e7, h⟩ := ob h
    refine fr_ir (M := (modelW cyI m0 m1 m2 m3 m4 m5 m6 state history recorded slots isSaved pad padLength opened pos letter first second)) (va_runV (As := [.int q4]) (rest := []) ⟨hx, hb, hml, hown, hts⟩ (mX8_whyNotThrown l dC dI cyI cyO m0 m1 m2 m3 m4 m5 m6 state history recorded slots isSaved pad padLength opened pos letter first second q4 _ q6 e7) (cwV 1 hts (gV ml_X8_162 im_X8_whyNotThrown se_X8_whyNotThrown in_X8 co_X8_whyNotThrown) rfl rfl rfl (by decide +kernel) ⟨Nat.le_of_ble_eq_true rfl, Nat.le_of_ble_eq_true rfl⟩) (cP_V hK hP hD [0, 1, 2, 3, 4, 5, 6] rfl rfl 0 rfl rfl) rfl rfl hl.1 rfl (lv_room (Nat.le_of_ble_eq_true rfl)) dX8_whyKeyNotThrown_15 ⟨Nat.zero_le _, Nat.zero_le _⟩) hP hD hS hA [0, 1, 2, 3, 4, 5, 6] rfl (fun H locs hP hS => ?_)
    refine lv_goto (tgt := 22) hx hb dX8_whyKeyNotThrown_18 (by decide) ?_
    obtain rfl := Option.some.inj h
    exact e_i hx hb hr hlocks hP hS dX8_whyKeyNotThrown_22
noncomputable def fX8_keyThrown_b52 : Nat → (Nat → Int32) → Int32 → Int32 → Int32 → Option (Int32 × (Nat → Int32))
  | 0, _, _, _, _ => none
  | fuel + 1, state, y1, y2, y3 =>
  (if (1 : Int32) < 0 ∨ 844 ≤ (1 : Int32).toNatClampNeg then none else (if (state (1 : Int32).toNatClampNeg) ≤ y3 then ((fX8_keyPart state y1 0).bind fun q3 => ((fX8_makesAboveAnew state q3).bind fun q5 => (some (y2, q5)))) else ((fX8_isUnder state y3 y1).bind fun q7 => (if q7 = 0 then fX8_keyThrown_b52 fuel state y1 y2 (y3 + 1) else ((fX8_setKey state y3 1 0).bind fun q10 => fX8_keyThrown_b52 fuel q10 y1 y2 (y3 + 1))))))

noncomputable def fX8_keyThrown_b13 : Nat → (Nat → Int32) → Int32 → Int32 → Int32 → Option (Int32 × (Nat → Int32))
  | 0, _, _, _, _ => none
  | fuel + 1, state, y1, y2, y3 =>
  (if (2 : Int32) < 0 ∨ 844 ≤ (2 : Int32).toNatClampNeg then none else (if (state (2 : Int32).toNatClampNeg) ≤ y3 then fX8_keyThrown_b52 6000 state y1 y2 0 else ((fX8_boxPart state y3 0).bind fun q14 => ((fX8_isUnder state q14 y1).bind fun q16 => (if q16 = 0 then fX8_keyThrown_b13 fuel state y1 y2 (y3 + 1) else ((fX8_setBox state y3 1 0).bind fun q19 => fX8_keyThrown_b13 fuel q19 y1 y2 (y3 + 1)))))))

noncomputable def fX8_keyThrown (state : Nat → Int32) (x1 : Int32) : Option (Int32 × (Nat → Int32)) :=
  ((fX8_keyPart state x1 0).bind fun q21 => ((fX8_throwMakes state q21).bind fun q23 => fX8_keyThrown_b13 6000 state x1 q23 0))
set_option maxHeartbeats 1000000 in
set_option maxRecDepth 100000 in
theorem mX8_keyThrown (l : Launch) (dC : Nat → ClassId) (dI : Nat → Nat → Nat) (cyI cyO : ClassId) (m0 m1 m2 m3 m4 m5 m6 : Nat) (state : Nat → Int32) (history : Nat → Int32) (recorded : Int32) (slots : Nat → Int32) (isSaved : Nat → Int32) (pad : Nat → Int32) (padLength : Int32) (opened : Nat → Int32) (pos : Int32) (letter : Int32) (first : Int32) (second : Int32) (x1 : Int32) (sz : Nat) (res : Int32 × (Nat → Int32)) (h : fX8_keyThrown state x1 = some res) : Met l yX8_keyThrown (wsG yX8_keyThrown cX8_keyThrown 4 (some .int)) ({ frames := 5, cells := 0, slots := 0, locals := 112 }) (cP dC dI cyI cyO sz [.ref m0, .int x1] (modelW cyI m0 m1 m2 m3 m4 m5 m6 state history recorded slots isSaved pad padLength opened pos letter first second)) (cI dC dI res.1 (modelW cyI m0 m1 m2 m3 m4 m5 m6 res.2 history recorded slots isSaved pad padLength opened pos letter first second) (va_A (modelW cyI m0 m1 m2 m3 m4 m5 m6 state history recorded slots isSaved pad padLength opened pos letter first second) sz)) 0 0 (va_A (modelW cyI m0 m1 m2 m3 m4 m5 m6 state history recorded slots isSaved pad padLength opened pos letter first second) sz) := by
  refine Met.ofW (cc := cX8_keyThrown) (maxL := 4) (ret := (some .int)) (by decide) rfl ?_
  intro p e s m args below meth c s₁ B hml hv
  obtain ⟨rfl, hsz, hP, hK, hD0⟩ := hv
  have hx := B.exec
  have hb := B.bytes
  have hr := B.returns
  have hts := atoms_spec (ws := wsG yX8_keyThrown cX8_keyThrown 4 (some .int)) B.pre
  have hown : s.vm.findClass RX8 = some m.cls := findClass_of_methodNamed B.named
  have hlocks := B.notSynchronized
  subst hsz
  have hD := hD0.self (sz := s.heap.size)
  generalize hAe : va_A (modelW cyI m0 m1 m2 m3 m4 m5 m6 state history recorded slots isSaved pad padLength opened pos letter first second) s.heap.size = A at hD ⊢
  have hA : ∀ q : Nat, s.heap.size ≤ q → A q := fun q h => by rw [← hAe]; exact Or.inr h
  have hS : va_S A s.heap s.heap [] := va_S.rf
  have kB52 : ∀ (fuel : Nat) (state : Nat → Int32) (y1 : Int32) (y2 : Int32) (y3 : Int32), fX8_keyThrown_b52 fuel state y1 y2 y3 = some res → ∀ (H : Heap) (locs : List Loc), va_P (dC, dI) vwCl (modelW cyI m0 m1 m2 m3 m4 m5 m6 state history recorded slots isSaved pad padLength opened pos letter first second) H → va_D A (modelW cyI m0 m1 m2 m3 m4 m5 m6 state history recorded slots isSaved pad padLength opened pos letter first second) → va_S A s.heap H locs → ∀ ls : Array Slot, lv_has ls 4 [(0, .ref m0), (1, .int y1), (2, .int y2), (3, .int y3)] → W p l e (headSpec (wsG yX8_keyThrown cX8_keyThrown 4 (some .int)) ({ frames := 5, cells := 0, slots := 0, locals := 112 })).room s m (([.ref m0, .int x1] : List Value).toArray) below meth c H locs 0 0 (MQ below (cI dC dI res.1 (modelW cyI m0 m1 m2 m3 m4 m5 m6 res.2 history recorded slots isSaved pad padLength opened pos letter first second) A) ([.ref m0, .int x1] : List Value).toArray s 0 0 A) (F0 m 52 ls []) := by
    intro fuel
    induction fuel with
    | zero => intro state y1 y2 y3 h; rw [fX8_keyThrown_b52] at h; cases h
    | succ fuel ih =>
      intro state y1 y2 y3 h H locs hP hD hS ls hl
      rw [fX8_keyThrown_b52] at h
      refine lv_iload_n hx hb dX8_keyThrown_52 rfl (lv_at hl 3 rfl) ?_
      refine lv_aload_n hx hb dX8_keyThrown_53 rfl (lv_at hl 0 rfl) ?_
      refine va_get (D := (dC, dI)) (ci := 8) (v := .ref m1) (C := RX8) (T := TX8) (N := 12) hx hb hts (fun w h9 => gb_mem (lay_X8 w h9)) hown hK.1 hP 0 rfl rfl 0 (by decide) (hts _ (gb_mem fl_X8_7)) (fun _ h9 => h9) rfl dX8_keyThrown_54 ?_
      refine lv_iconst (v := 1) hx hb dX8_keyThrown_57 (by decide) ?_
      obtain ⟨ni1, h⟩ := ifn h
      refine va_iald hx hb hK.1 hP 1 0 rfl rfl ni1 dX8_keyThrown_58 ?_
      refine lv_icmp_ge (tgt := 84) hx hb dX8_keyThrown_59 (by decide) (fun c2 => ?_) (fun c2 => ?_)
      · have h := (if_pos c2).symm.trans h
        refine lv_aload_n hx hb dX8_keyThrown_84 rfl (lv_at hl 0 rfl) ?_
        refine lv_aload_n hx hb dX8_keyThrown_85 rfl (lv_at hl 0 rfl) ?_
        refine lv_iload_n hx hb dX8_keyThrown_86 rfl (lv_at hl 1 rfl) ?_
        refine lv_iconst (v := 0) hx hb dX8_keyThrown_87 (by decide) ?_
        obtain ⟨q3, e4, h⟩ := ob h
        refine fr_ir (M := (modelW cyI m0 m1 m2 m3 m4 m5 m6 state history recorded slots isSaved pad padLength opened pos letter first second)) (va_runV (As := [.int y1, .int 0]) (rest := [.ref m0]) ⟨hx, hb, hml, hown, hts⟩ (mX8_keyPart l dC dI cyI cyO m0 m1 m2 m3 m4 m5 m6 state history recorded slots isSaved pad padLength opened pos letter first second y1 0 _ q3 e4) (cwV 2 hts (gV ml_X8_44 im_X8_keyPart se_X8_keyPart in_X8 co_X8_keyPart) rfl rfl rfl (by decide +kernel) ⟨Nat.le_of_ble_eq_true rfl, Nat.le_of_ble_eq_true rfl⟩) (cP_V hK hP hD [0, 1, 2, 3, 4, 5, 6] rfl rfl 0 rfl rfl) rfl rfl hl.1 rfl (lv_room (Nat.le_of_ble_eq_true rfl)) dX8_keyThrown_88 ⟨Nat.zero_le _, Nat.zero_le _⟩) hP hD hS hA [0, 1, 2, 3, 4, 5, 6] rfl (fun H locs hP hS => ?_)
        obtain ⟨q5, e6, h⟩ := ob h
        refine fr_v (M := (modelW cyI m0 m1 m2 m3 m4 m5 m6 state history recorded slots isSaved pad padLength opened pos letter first second)) (M' := (modelW cyI m0 m1 m2 m3 m4 m5 m6 q5 history recorded slots isSaved pad padLength opened pos letter first second)) (L' := (modelW cyI m0 m1 m2 m3 m4 m5 m6 q5 history recorded slots isSaved pad padLength opened pos letter first second)) (va_runV (As := [.int q3]) (rest := []) ⟨hx, hb, hml, hown, hts⟩ (mX8_makesAboveAnew l dC dI cyI cyO m0 m1 m2 m3 m4 m5 m6 state history recorded slots isSaved pad padLength opened pos letter first second q3 _ q5 e6) (cwV 1 hts (gV ml_X8_168 im_X8_makesAboveAnew se_X8_makesAboveAnew in_X8 co_X8_makesAboveAnew) rfl rfl rfl (by decide +kernel) ⟨Nat.le_of_ble_eq_true rfl, Nat.le_of_ble_eq_true rfl⟩) (cP_V hK hP hD [0, 1, 2, 3, 4, 5, 6] rfl rfl 0 rfl rfl) rfl rfl hl.1 rfl (lv_room (Nat.le_of_ble_eq_true rfl)) dX8_keyThrown_91 ⟨Nat.zero_le _, Nat.zero_le _⟩) hP hD hS hA [0, 1, 2, 3, 4, 5, 6] rfl [(true, 0), (true, 1), (true, 2), (true, 3), (true, 4), (true, 5), (true, 6)] rfl rfl rfl (fun H locs hP hD hS => ?_)
        refine lv_iload_n hx hb dX8_keyThrown_94 rfl (lv_at hl 2 rfl) ?_
        obtain rfl := Option.some.inj h
        exact e_i hx hb hr hlocks hP hS dX8_keyThrown_95
      · have h := (if_neg c2).symm.trans h
        refine lv_aload_n hx hb dX8_keyThrown_62 rfl (lv_at hl 0 rfl) ?_
        refine lv_iload_n hx hb dX8_keyThrown_63 rfl (lv_at hl 3 rfl) ?_
        refine lv_iload_n hx hb dX8_keyThrown_64 rfl (lv_at hl 1 rfl) ?_
        obtain ⟨q7, e8, h⟩ := ob h
        refine fr_ir (M := (modelW cyI m0 m1 m2 m3 m4 m5 m6 state history recorded slots isSaved pad padLength opened pos letter first second)) (va_runV (As := [.int y3, .int y1]) (rest := []) ⟨hx, hb, hml, hown, hts⟩ (mX8_isUnder l dC dI cyI cyO m0 m1 m2 m3 m4 m5 m6 state history recorded slots isSaved pad padLength opened pos letter first second y3 y1 _ q7 e8) (cwV 2 hts (gV ml_X8_165 im_X8_isUnder se_X8_isUnder in_X8 co_X8_isUnder) rfl rfl rfl (by decide +kernel) ⟨Nat.le_of_ble_eq_true rfl, Nat.le_of_ble_eq_true rfl⟩) (cP_V hK hP hD [0, 1, 2, 3, 4, 5, 6] rfl rfl 0 rfl rfl) rfl rfl hl.1 rfl (lv_room (Nat.le_of_ble_eq_true rfl)) dX8_keyThrown_65 ⟨Nat.zero_le _, Nat.zero_le _⟩) hP hD hS hA [0, 1, 2, 3, 4, 5, 6] rfl (fun H locs hP hS => ?_)
        refine lv_if_eq (tgt := 78) hx hb dX8_keyThrown_68 (by decide) (fun c9 => ?_) (fun c9 => ?_)
        · have h := (if_pos c9).symm.trans h
          refine lv_iinc (v := (y3 + 1)) (lv' := [(3, .int (y3 + 1)), (0, .ref m0), (1, .int y1), (2, .int y2)]) hx hb dX8_keyThrown_78 hl (k := 3) rfl rfl (by decide) rfl (fun ls hl => ?_)
          refine lv_goto (tgt := 52) hx hb dX8_keyThrown_81 (by decide) ?_
          exact ih state y1 y2 (y3 + 1) h _ _ hP hD hS ls (lv_sub hl [1, 2, 3, 0] rfl)
        · have h := (if_neg c9).symm.trans h
          refine lv_aload_n hx hb dX8_keyThrown_71 rfl (lv_at hl 0 rfl) ?_
          refine lv_iload_n hx hb dX8_keyThrown_72 rfl (lv_at hl 3 rfl) ?_
          refine lv_iconst (v := 1) hx hb dX8_keyThrown_73 (by decide) ?_
          refine lv_iconst (v := 0) hx hb dX8_keyThrown_74 (by decide) ?_
          obtain ⟨q10, e11, h⟩ := ob h
          refine fr_v (M := (modelW cyI m0 m1 m2 m3 m4 m5 m6 state history recorded slots isSaved pad padLength opened pos letter first second)) (M' := (modelW cyI m0 m1 m2 m3 m4 m5 m6 q10 history recorded slots isSaved pad padLength opened pos letter first second)) (L' := (modelW cyI m0 m1 m2 m3 m4 m5 m6 q10 history recorded slots isSaved pad padLength opened pos letter first second)) (va_runV (As := [.int y3, .int 1, .int 0]) (rest := []) ⟨hx, hb, hml, hown, hts⟩ (mX8_setKey l dC dI cyI cyO m0 m1 m2 m3 m4 m5 m6 state history recorded slots isSaved pad padLength opened pos letter first second y3 1 0 _ q10 e11) (cwV 3 hts (gV ml_X8_68 im_X8_setKey se_X8_setKey in_X8 co_X8_setKey) rfl rfl rfl (by decide +kernel) ⟨Nat.le_of_ble_eq_true rfl, Nat.le_of_ble_eq_true rfl⟩) (cP_V hK hP hD [0, 1, 2, 3, 4, 5, 6] rfl rfl 0 rfl rfl) rfl rfl hl.1 rfl (lv_room (Nat.le_of_ble_eq_true rfl)) dX8_keyThrown_75 ⟨Nat.zero_le _, Nat.zero_le _⟩) hP hD hS hA [0, 1, 2, 3, 4, 5, 6] rfl [(true, 0), (true, 1), (true, 2), (true, 3), (true, 4), (true, 5), (true, 6)] rfl rfl rfl (fun H locs hP hD hS => ?_)
          refine lv_iinc (v := (y3 + 1)) (lv' := [(3, .int (y3 + 1)), (0, .ref m0), (1, .int y1), (2, .int y2)]) hx hb dX8_keyThrown_78 hl (k := 3) rfl rfl (by decide) rfl (fun ls hl => ?_)
          refine lv_goto (tgt := 52) hx hb dX8_keyThrown_81 (by decide) ?_
          exact ih q10 y1 y2 (y3 + 1) h _ _ hP hD hS ls (lv_sub hl [1, 2, 3, 0] rfl)
  have kB13 : ∀ (fuel : Nat) (state : Nat → Int32) (y1 : Int32) (y2 : Int32) (y3 : Int32), fX8_keyThrown_b13 fuel state y1 y2 y3 = some res → ∀ (H : Heap) (locs : List Loc), va_P (dC, dI) vwCl (modelW cyI m0 m1 m2 m3 m4 m5 m6 state history recorded slots isSaved pad padLength opened pos letter first second) H → va_D A (modelW cyI m0 m1 m2 m3 m4 m5 m6 state history recorded slots isSaved pad padLength opened pos letter first second) → va_S A s.heap H locs → ∀ ls : Array Slot, lv_has ls 4 [(0, .ref m0), (1, .int y1), (2, .int y2), (3, .int y3)] → W p l e (headSpec (wsG yX8_keyThrown cX8_keyThrown 4 (some .int)) ({ frames := 5, cells := 0, slots := 0, locals := 112 })).room s m (([.ref m0, .int x1] : List Value).toArray) below meth c H locs 0 0 (MQ below (cI dC dI res.1 (modelW cyI m0 m1 m2 m3 m4 m5 m6 res.2 history recorded slots isSaved pad padLength opened pos letter first second) A) ([.ref m0, .int x1] : List Value).toArray s 0 0 A) (F0 m 13 ls []) := by
    intro fuel
    induction fuel with
    | zero => intro state y1 y2 y3 h; rw [fX8_keyThrown_b13] at h; cases h
    | succ fuel ih =>
      intro state y1 y2 y3 h H locs hP hD hS ls hl
      rw [fX8_keyThrown_b13] at h
      refine lv_iload_n hx hb dX8_keyThrown_13 rfl (lv_at hl 3 rfl) ?_
      refine lv_aload_n hx hb dX8_keyThrown_14 rfl (lv_at hl 0 rfl) ?_
      refine va_get (D := (dC, dI)) (ci := 8) (v := .ref m1) (C := RX8) (T := TX8) (N := 12) hx hb hts (fun w h9 => gb_mem (lay_X8 w h9)) hown hK.1 hP 0 rfl rfl 0 (by decide) (hts _ (gb_mem fl_X8_7)) (fun _ h9 => h9) rfl dX8_keyThrown_15 ?_
      refine lv_iconst (v := 2) hx hb dX8_keyThrown_18 (by decide) ?_
      obtain ⟨ni12, h⟩ := ifn h
      refine va_iald hx hb hK.1 hP 1 0 rfl rfl ni12 dX8_keyThrown_19 ?_
      refine lv_icmp_ge (tgt := 50) hx hb dX8_keyThrown_20 (by decide) (fun c13 => ?_) (fun c13 => ?_)
      · have h := (if_pos c13).symm.trans h
        refine lv_iconst (v := 0) hx hb dX8_keyThrown_50 (by decide) ?_
        refine lv_istore_n (lv' := [(3, .int 0), (0, .ref m0), (1, .int y1), (2, .int y2)]) hx hb dX8_keyThrown_51 rfl hl (by decide) rfl (fun ls hl => ?_)
        exact kB52 6000 state y1 y2 0 h _ _ hP hD hS ls (lv_sub hl [1, 2, 3, 0] rfl)
      · have h := (if_neg c13).symm.trans h
        refine lv_aload_n hx hb dX8_keyThrown_23 rfl (lv_at hl 0 rfl) ?_
        refine lv_aload_n hx hb dX8_keyThrown_24 rfl (lv_at hl 0 rfl) ?_
        refine lv_iload_n hx hb dX8_keyThrown_25 rfl (lv_at hl 3 rfl) ?_
        refine lv_iconst (v := 0) hx hb dX8_keyThrown_26 (by decide) ?_
        obtain ⟨q14, e15, h⟩ := ob h
        refine fr_ir (M := (modelW cyI m0 m1 m2 m3 m4 m5 m6 state history recorded slots isSaved pad padLength opened pos letter first second)) (va_runV (As := [.int y3, .int 0]) (rest := [.ref m0]) ⟨hx, hb, hml, hown, hts⟩ (mX8_boxPart l dC dI cyI cyO m0 m1 m2 m3 m4 m5 m6 state history recorded slots isSaved pad padLength opened pos letter first second y3 0 _ q14 e15) (cwV 2 hts (gV ml_X8_51 im_X8_boxPart se_X8_boxPart in_X8 co_X8_boxPart) rfl rfl rfl (by decide +kernel) ⟨Nat.le_of_ble_eq_true rfl, Nat.le_of_ble_eq_true rfl⟩) (cP_V hK hP hD [0, 1, 2, 3, 4, 5, 6] rfl rfl 0 rfl rfl) rfl rfl hl.1 rfl (lv_room (Nat.le_of_ble_eq_true rfl)) dX8_keyThrown_27 ⟨Nat.zero_le _, Nat.zero_le _⟩) hP hD hS hA [0, 1, 2, 3, 4, 5, 6] rfl (fun H locs hP hS => ?_)
        refine lv_iload_n hx hb dX8_keyThrown_30 rfl (lv_at hl 1 rfl) ?_
        obtain ⟨q16, e17, h⟩ := ob h
        refine fr_ir (M := (modelW cyI m0 m1 m2 m3 m4 m5 m6 state history recorded slots isSaved pad padLength opened pos letter first second)) (va_runV (As := [.int q14, .int y1]) (rest := []) ⟨hx, hb, hml, hown, hts⟩ (mX8_isUnder l dC dI cyI cyO m0 m1 m2 m3 m4 m5 m6 state history recorded slots isSaved pad padLength opened pos letter first second q14 y1 _ q16 e17) (cwV 2 hts (gV ml_X8_165 im_X8_isUnder se_X8_isUnder in_X8 co_X8_isUnder) rfl rfl rfl (by decide +kernel) ⟨Nat.le_of_ble_eq_true rfl, Nat.le_of_ble_eq_true rfl⟩) (cP_V hK hP hD [0, 1, 2, 3, 4, 5, 6] rfl rfl 0 rfl rfl) rfl rfl hl.1 rfl (lv_room (Nat.le_of_ble_eq_true rfl)) dX8_keyThrown_31 ⟨Nat.zero_le _, Nat.zero_le _⟩) hP hD hS hA [0, 1, 2, 3, 4, 5, 6] rfl (fun H locs hP hS => ?_)
        refine lv_if_eq (tgt := 44) hx hb dX8_keyThrown_34 (by decide) (fun c18 => ?_) (fun c18 => ?_)
        · have h := (if_pos c18).symm.trans h
          refine lv_iinc (v := (y3 + 1)) (lv' := [(3, .int (y3 + 1)), (0, .ref m0), (1, .int y1), (2, .int y2)]) hx hb dX8_keyThrown_44 hl (k := 3) rfl rfl (by decide) rfl (fun ls hl => ?_)
          refine lv_goto (tgt := 13) hx hb dX8_keyThrown_47 (by decide) ?_
          exact ih state y1 y2 (y3 + 1) h _ _ hP hD hS ls (lv_sub hl [1, 2, 3, 0] rfl)
        · have h := (if_neg c18).symm.trans h
          refine lv_aload_n hx hb dX8_keyThrown_37 rfl (lv_at hl 0 rfl) ?_
          refine lv_iload_n hx hb dX8_keyThrown_38 rfl (lv_at hl 3 rfl) ?_
          refine lv_iconst (v := 1) hx hb dX8_keyThrown_39 (by decide) ?_
          refine lv_iconst (v := 0) hx hb dX8_keyThrown_40 (by decide) ?_
          obtain ⟨q19, e20, h⟩ := ob h
          refine fr_v (M := (modelW cyI m0 m1 m2 m3 m4 m5 m6 state history recorded slots isSaved pad padLength opened pos letter first second)) (M' := (modelW cyI m0 m1 m2 m3 m4 m5 m6 q19 history recorded slots isSaved pad padLength opened pos letter first second)) (L' := (modelW cyI m0 m1 m2 m3 m4 m5 m6 q19 history recorded slots isSaved pad padLength opened pos letter first second)) (va_runV (As := [.int y3, .int 1, .int 0]) (rest := []) ⟨hx, hb, hml, hown, hts⟩ (mX8_setBox l dC dI cyI cyO m0 m1 m2 m3 m4 m5 m6 state history recorded slots isSaved pad padLength opened pos letter first second y3 1 0 _ q19 e20) (cwV 3 hts (gV ml_X8_117 im_X8_setBox se_X8_setBox in_X8 co_X8_setBox) rfl rfl rfl (by decide +kernel) ⟨Nat.le_of_ble_eq_true rfl, Nat.le_of_ble_eq_true rfl⟩) (cP_V hK hP hD [0, 1, 2, 3, 4, 5, 6] rfl rfl 0 rfl rfl) rfl rfl hl.1 rfl (lv_room (Nat.le_of_ble_eq_true rfl)) dX8_keyThrown_41 ⟨Nat.zero_le _, Nat.zero_le _⟩) hP hD hS hA [0, 1, 2, 3, 4, 5, 6] rfl [(true, 0), (true, 1), (true, 2), (true, 3), (true, 4), (true, 5), (true, 6)] rfl rfl rfl (fun H locs hP hD hS => ?_)
          refine lv_iinc (v := (y3 + 1)) (lv' := [(3, .int (y3 + 1)), (0, .ref m0), (1, .int y1), (2, .int y2)]) hx hb dX8_keyThrown_44 hl (k := 3) rfl rfl (by decide) rfl (fun ls hl => ?_)
          refine lv_goto (tgt := 13) hx hb dX8_keyThrown_47 (by decide) ?_
          exact ih q19 y1 y2 (y3 + 1) h _ _ hP hD hS ls (lv_sub hl [1, 2, 3, 0] rfl)
  have hl := lv_entry ([.ref m0, .int x1]) (n := 4) (Nat.le_of_ble_eq_true rfl)
  rw [lg_entry_eq]
  generalize (lg_sl ([.ref m0, .int x1]) ++ List.replicate (4 - (lg_sl ([.ref m0, .int x1])).length) Slot.unset).toArray = ls at hl ⊢
  have hl : lv_has ls 4 [(0, .ref m0), (1, .int x1)] := hl
  unfold fX8_keyThrown at h
  refine lv_aload_n hx hb dX8_keyThrown_0 rfl (lv_at hl 0 rfl) ?_
  refine lv_aload_n hx hb dX8_keyThrown_1 rfl (lv_at hl 0 rfl) ?_
  refine lv_iload_n hx hb dX8_keyThrown_2 rfl (lv_at hl 1 rfl) ?_
  refine lv_iconst (v := 0) hx hb dX8_keyThrown_3 (by decide) ?_
  obtain ⟨q21, e22, h⟩ := ob h
  refine fr_ir (M := (modelW cyI m0 m1 m2 m3 m4 m5 m6 state history recorded slots isSaved pad padLength opened pos letter first second)) (va_runV (As := [.int x1, .int 0]) (rest := [.ref m0]) ⟨hx, hb, hml, hown, hts⟩ (mX8_keyPart l dC dI cyI cyO m0 m1 m2 m3 m4 m5 m6 state history recorded slots isSaved pad padLength opened pos letter first second x1 0 _ q21 e22) (cwV 2 hts (gV ml_X8_44 im_X8_keyPart se_X8_keyPart in_X8 co_X8_keyPart) rfl rfl rfl (by decide +kernel) ⟨Nat.le_of_ble_eq_true rfl, Nat.le_of_ble_eq_true rfl⟩) (cP_V hK hP hD [0, 1, 2, 3, 4, 5, 6] rfl rfl 0 rfl rfl) rfl rfl hl.1 rfl (lv_room (Nat.le_of_ble_eq_true rfl)) dX8_keyThrown_4 ⟨Nat.zero_le _, Nat.zero_le _⟩) hP hD hS hA [0, 1, 2, 3, 4, 5, 6] rfl (fun H locs hP hS => ?_)
  obtain ⟨q23, e24, h⟩ := ob h
  refine fr_ir (M := (modelW cyI m0 m1 m2 m3 m4 m5 m6 state history recorded slots isSaved pad padLength opened pos letter first second)) (va_runV (As := [.int q21]) (rest := []) ⟨hx, hb, hml, hown, hts⟩ (mX8_throwMakes l dC dI cyI cyO m0 m1 m2 m3 m4 m5 m6 state history recorded slots isSaved pad padLength opened pos letter first second q21 _ q23 e24) (cwV 1 hts (gV ml_X8_153 im_X8_throwMakes se_X8_throwMakes in_X8 co_X8_throwMakes) rfl rfl rfl (by decide +kernel) ⟨Nat.le_of_ble_eq_true rfl, Nat.le_of_ble_eq_true rfl⟩) (cP_V hK hP hD [0, 1, 2, 3, 4, 5, 6] rfl rfl 0 rfl rfl) rfl rfl hl.1 rfl (lv_room (Nat.le_of_ble_eq_true rfl)) dX8_keyThrown_7 ⟨Nat.zero_le _, Nat.zero_le _⟩) hP hD hS hA [0, 1, 2, 3, 4, 5, 6] rfl (fun H locs hP hS => ?_)
  refine lv_istore_n (lv' := [(2, .int q23), (0, .ref m0), (1, .int x1)]) hx hb dX8_keyThrown_10 rfl hl (by decide) rfl (fun ls hl => ?_)
  refine lv_iconst (v := 0) hx hb dX8_keyThrown_11 (by decide) ?_
  refine lv_istore_n (lv' := [(3, .int 0), (2, .int q23), (0, .ref m0), (1, .int x1)]) hx hb dX8_keyThrown_12 rfl hl (by decide) rfl (fun ls hl => ?_)
  exact kB13 6000 state x1 q23 0 h _ _ hP hD hS ls (lv_sub hl [2, 3, 1, 0] rfl)

noncomputable def fX8_throwKey (state : Nat → Int32) (history : Nat → Int32) (recorded : Int32) (x1 : Int32) : Option (Int32 × (Nat → Int32) × (Nat → Int32) × Int32) :=
  ((fX8_whyKeyNotThrown state x1).bind fun q1 => (if 0 ≤ q1 then ((fX8_record state history recorded).bind fun q4 => ((fX8_keyThrown state x1).bind fun q6 => (some (q6.1, q6.2, q4.1, q4.2)))) else (some (q1, state, history, recorded))))
set_option maxHeartbeats 1000000 in
set_option maxRecDepth 100000 in
theorem mX8_throwKey (l : Launch) (dC : Nat → ClassId) (dI : Nat → Nat → Nat) (cyI cyO : ClassId) (m0 m1 m2 m3 m4 m5 m6 : Nat) (state : Nat → Int32) (history : Nat → Int32) (recorded : Int32) (slots : Nat → Int32) (isSaved : Nat → Int32) (pad : Nat → Int32) (padLength : Int32) (opened : Nat → Int32) (pos : Int32) (letter : Int32) (first : Int32) (second : Int32) (x1 : Int32) (sz : Nat) (res : Int32 × (Nat → Int32) × (Nat → Int32) × Int32) (h : fX8_throwKey state history recorded x1 = some res) : Met l yX8_throwKey (wsG yX8_throwKey cX8_throwKey 3 (some .int)) ({ frames := 6, cells := 0, slots := 0, locals := 135 }) (cP dC dI cyI cyO sz [.ref m0, .int x1] (modelW cyI m0 m1 m2 m3 m4 m5 m6 state history recorded slots isSaved pad padLength opened pos letter first second)) (cI dC dI res.1 (modelW cyI m0 m1 m2 m3 m4 m5 m6 res.2.1 res.2.2.1 res.2.2.2 slots isSaved pad padLength opened pos letter first second) (va_A (modelW cyI m0 m1 m2 m3 m4 m5 m6 state history recorded slots isSaved pad padLength opened pos letter first second) sz)) 0 0 (va_A (modelW cyI m0 m1 m2 m3 m4 m5 m6 state history recorded slots isSaved pad padLength opened pos letter first second) sz) := by
  refine Met.ofW (cc := cX8_throwKey) (maxL := 3) (ret := (some .int)) (by decide) rfl ?_
  intro p e s m args below meth c s₁ B hml hv
  obtain ⟨rfl, hsz, hP, hK, hD0⟩ := hv
  have hx := B.exec
  have hb := B.bytes
  have hr := B.returns
  have hts := atoms_spec (ws := wsG yX8_throwKey cX8_throwKey 3 (some .int)) B.pre
  have hown : s.vm.findClass RX8 = some m.cls := findClass_of_methodNamed B.named
  have hlocks := B.notSynchronized
  subst hsz
  have hD := hD0.self (sz := s.heap.size)
  generalize hAe : va_A (modelW cyI m0 m1 m2 m3 m4 m5 m6 state history recorded slots isSaved pad padLength opened pos letter first second) s.heap.size = A at hD ⊢
  have hA : ∀ q : Nat, s.heap.size ≤ q → A q := fun q h => by rw [← hAe]; exact Or.inr h
  have hS : va_S A s.heap s.heap [] := va_S.rf
  have hl := lv_entry ([.ref m0, .int x1]) (n := 3) (Nat.le_of_ble_eq_true rfl)
  rw [lg_entry_eq]
  generalize (lg_sl ([.ref m0, .int x1]) ++ List.replicate (3 - (lg_sl ([.ref m0, .int x1])).length) Slot.unset).toArray = ls at hl ⊢
  have hl : lv_has ls 3 [(0, .ref m0), (1, .int x1)] := hl
  unfold fX8_throwKey at h
  refine lv_aload_n hx hb dX8_throwKey_0 rfl (lv_at hl 0 rfl) ?_
  refine lv_iload_n hx hb dX8_throwKey_1 rfl (lv_at hl 1 rfl) ?_
  obtain ⟨q1, e2, h⟩ := ob h
  refine fr_ir (M := (modelW cyI m0 m1 m2 m3 m4 m5 m6 state history recorded slots isSaved pad padLength opened pos letter first second)) (va_runV (As := [.int x1]) (rest := []) ⟨hx, hb, hml, hown, hts⟩ (mX8_whyKeyNotThrown l dC dI cyI cyO m0 m1 m2 m3 m4 m5 m6 state history recorded slots isSaved pad padLength opened pos letter first second x1 _ q1 e2) (cwV 1 hts (gV ml_X8_171 im_X8_whyKeyNotThrown se_X8_whyKeyNotThrown in_X8 co_X8_whyKeyNotThrown) rfl rfl rfl (by decide +kernel) ⟨Nat.le_of_ble_eq_true rfl, Nat.le_of_ble_eq_true rfl⟩) (cP_V hK hP hD [0, 1, 2, 3, 4, 5, 6] rfl rfl 0 rfl rfl) rfl rfl hl.1 rfl (lv_room (Nat.le_of_ble_eq_true rfl)) dX8_throwKey_2 ⟨Nat.zero_le _, Nat.zero_le _⟩) hP hD hS hA [0, 1, 2, 3, 4, 5, 6] rfl (fun H locs hP hS => ?_)
  refine lv_istore_n (lv' := [(2, .int q1), (0, .ref m0), (1, .int x1)]) hx hb dX8_throwKey_5 rfl hl (by decide) rfl (fun ls hl => ?_)
  refine lv_iload_n hx hb dX8_throwKey_6 rfl (lv_at hl 0 rfl) ?_
  refine lv_if_ge (tgt := 12) hx hb dX8_throwKey_7 (by decide) (fun c3 => ?_) (fun c3 => ?_)
  · have h := (if_pos c3).symm.trans h
    refine lv_aload_n hx hb dX8_throwKey_12 rfl (lv_at hl 1 rfl) ?_
    obtain ⟨q4, e5, h⟩ := ob h
    refine fr_v (M := (modelW cyI m0 m1 m2 m3 m4 m5 m6 state history recorded slots isSaved pad padLength opened pos letter first second)) (M' := (modelW cyI m0 m1 m2 m3 m4 m5 m6 state q4.1 q4.2 slots isSaved pad padLength opened pos letter first second)) (L' := (modelW cyI m0 m1 m2 m3 m4 m5 m6 state q4.1 q4.2 slots isSaved pad padLength opened pos letter first second)) (va_runV (As := []) (rest := []) ⟨hx, hb, hml, hown, hts⟩ (mX8_record l dC dI cyI cyO m0 m1 m2 m3 m4 m5 m6 state history recorded slots isSaved pad padLength opened pos letter first second _ q4 e5) (cwV 0 hts (gV ml_X8_102 im_X8_record se_X8_record in_X8 co_X8_record) rfl rfl rfl (by decide +kernel) ⟨Nat.le_of_ble_eq_true rfl, Nat.le_of_ble_eq_true rfl⟩) (cP_V hK hP hD [0, 1, 2, 3, 4, 5, 6] rfl rfl 0 rfl rfl) rfl rfl hl.1 rfl (lv_room (Nat.le_of_ble_eq_true rfl)) dX8_throwKey_13 ⟨Nat.zero_le _, Nat.zero_le _⟩) hP hD hS hA [0, 1, 2, 3, 4, 5, 6] rfl [(true, 0), (true, 1), (true, 2), (true, 3), (true, 4), (true, 5), (true, 6)] rfl rfl rfl (fun H locs hP hD hS => ?_)
    refine lv_aload_n hx hb dX8_throwKey_16 rfl (lv_at hl 1 rfl) ?_
    refine lv_iload_n hx hb dX8_throwKey_17 rfl (lv_at hl 2 rfl) ?_
    obtain ⟨q6, e7, h⟩ := ob h
    refine fr_i (M := (modelW cyI m0 m1 m2 m3 m4 m5 m6 state q4.1 q4.2 slots isSaved pad padLength opened pos letter first second)) (M' := (modelW cyI m0 m1 m2 m3 m4 m5 m6 q6.2 q4.1 q4.2 slots isSaved pad padLength opened pos letter first second)) (L' := (modelW cyI m0 m1 m2 m3 m4 m5 m6 q6.2 q4.1 q4.2 slots isSaved pad padLength opened pos letter first second)) (va_runV (As := [.int x1]) (rest := []) ⟨hx, hb, hml, hown, hts⟩ (mX8_keyThrown l dC dI cyI cyO m0 m1 m2 m3 m4 m5 m6 state q4.1 q4.2 slots isSaved pad padLength opened pos letter first second x1 _ q6 e7) (cwV 1 hts (gV ml_X8_174 im_X8_keyThrown se_X8_keyThrown in_X8 co_X8_keyThrown) rfl rfl rfl (by decide +kernel) ⟨Nat.le_of_ble_eq_true rfl, Nat.le_of_ble_eq_true rfl⟩) (cP_V hK hP hD [0, 1, 2, 3, 4, 5, 6] rfl rfl 0 rfl rfl) rfl rfl hl.1 rfl (lv_room (Nat.le_of_ble_eq_true rfl)) dX8_throwKey_18 ⟨Nat.zero_le _, Nat.zero_le _⟩) hP hD hS hA [0, 1, 2, 3, 4, 5, 6] rfl [(true, 0), (true, 1), (true, 2), (true, 3), (true, 4), (true, 5), (true, 6)] rfl rfl rfl (fun H locs hP hD hS => ?_)
    obtain rfl := Option.some.inj h
    exact e_i hx hb hr hlocks hP hS dX8_throwKey_21
  · have h := (if_neg c3).symm.trans h
    refine lv_iload_n hx hb dX8_throwKey_10 rfl (lv_at hl 0 rfl) ?_
    obtain rfl := Option.some.inj h
    exact e_i hx hb hr hlocks hP hS dX8_throwKey_11

noncomputable def fX8_whyBoxNotThrown (state : Nat → Int32) (x1 : Int32) : Option (Int32) :=
  ((fX8_isLiveBox state x1).bind fun q1 => (if q1 = 0 then (some (-1)) else ((fX8_boxPart state x1 0).bind fun q4 => ((fX8_whyNotThrown state q4).bind fun q6 => (some q6)))))
set_option maxHeartbeats 1000000 in
set_option maxRecDepth 100000 in
theorem mX8_whyBoxNotThrown (l : Launch) (dC : Nat → ClassId) (dI : Nat → Nat → Nat) (cyI cyO : ClassId) (m0 m1 m2 m3 m4 m5 m6 : Nat) (state : Nat → Int32) (history : Nat → Int32) (recorded : Int32) (slots : Nat → Int32) (isSaved : Nat → Int32) (pad : Nat → Int32) (padLength : Int32) (opened : Nat → Int32) (pos : Int32) (letter : Int32) (first : Int32) (second : Int32) (x1 : Int32) (sz : Nat) (res : Int32) (h : fX8_whyBoxNotThrown state x1 = some res) : Met l yX8_whyBoxNotThrown (wsG yX8_whyBoxNotThrown cX8_whyBoxNotThrown 2 (some .int)) ({ frames := 5, cells := 0, slots := 0, locals := 114 }) (cP dC dI cyI cyO sz [.ref m0, .int x1] (modelW cyI m0 m1 m2 m3 m4 m5 m6 state history recorded slots isSaved pad padLength opened pos letter first second)) (cI dC dI res (modelW cyI m0 m1 m2 m3 m4 m5 m6 state history recorded slots isSaved pad padLength opened pos letter first second) (va_A (modelW cyI m0 m1 m2 m3 m4 m5 m6 state history recorded slots isSaved pad padLength opened pos letter first second) sz)) 0 0 (va_A (modelW cyI m0 m1 m2 m3 m4 m5 m6 state history recorded slots isSaved pad padLength opened pos letter first second) sz) := by
  refine Met.ofW (cc := cX8_whyBoxNotThrown) (maxL := 2) (ret := (some .int)) (by decide) rfl ?_
  intro p e s m args below meth c s₁ B hml hv
  obtain ⟨rfl, hsz, hP, hK, hD0⟩ := hv
  have hx := B.exec
  have hb := B.bytes
  have hr := B.returns
  have hts := atoms_spec (ws := wsG yX8_whyBoxNotThrown cX8_whyBoxNotThrown 2 (some .int)) B.pre
  have hown : s.vm.findClass RX8 = some m.cls := findClass_of_methodNamed B.named
  have hlocks := B.notSynchronized
  subst hsz
  have hD := hD0.self (sz := s.heap.size)
  generalize hAe : va_A (modelW cyI m0 m1 m2 m3 m4 m5 m6 state history recorded slots isSaved pad padLength opened pos letter first second) s.heap.size = A at hD ⊢
  have hA : ∀ q : Nat, s.heap.size ≤ q → A q := fun q h => by rw [← hAe]; exact Or.inr h
  have hS : va_S A s.heap s.heap [] := va_S.rf
  have hl := lv_entry ([.ref m0, .int x1]) (n := 2) (Nat.le_of_ble_eq_true rfl)
  rw [lg_entry_eq]
  generalize (lg_sl ([.ref m0, .int x1]) ++ List.replicate (2 - (lg_sl ([.ref m0, .int x1])).length) Slot.unset).toArray = ls at hl ⊢
  have hl : lv_has ls 2 [(0, .ref m0), (1, .int x1)] := hl
  unfold fX8_whyBoxNotThrown at h
  refine lv_aload_n hx hb dX8_whyBoxNotThrown_0 rfl (lv_at hl 0 rfl) ?_
  refine lv_iload_n hx hb dX8_whyBoxNotThrown_1 rfl (lv_at hl 1 rfl) ?_
  obtain ⟨q1, e2, h⟩ := ob h
  refine fr_ir (M := (modelW cyI m0 m1 m2 m3 m4 m5 m6 state history recorded slots isSaved pad padLength opened pos letter first second)) (va_runV (As := [.int x1]) (rest := []) ⟨hx, hb, hml, hown, hts⟩ (mX8_isLiveBox l dC dI cyI cyO m0 m1 m2 m3 m4 m5 m6 state history recorded slots isSaved pad padLength opened pos letter first second x1 _ q1 e2) (cwV 1 hts (gV ml_X8_177 im_X8_isLiveBox se_X8_isLiveBox in_X8 co_X8_isLiveBox) rfl rfl rfl (by decide +kernel) ⟨Nat.le_of_ble_eq_true rfl, Nat.le_of_ble_eq_true rfl⟩) (cP_V hK hP hD [0, 1, 2, 3, 4, 5, 6] rfl rfl 0 rfl rfl) rfl rfl hl.1 rfl (lv_room (Nat.le_of_ble_eq_true rfl)) dX8_whyBoxNotThrown_2 ⟨Nat.zero_le _, Nat.zero_le _⟩) hP hD hS hA [0, 1, 2, 3, 4, 5, 6] rfl (fun H locs hP hS => ?_)
  refine lv_if_eq (tgt := 21) hx hb dX8_whyBoxNotThrown_5 (by decide) (fun c3 => ?_) (fun c3 => ?_)
  · have h := (if_pos c3).symm.trans h
    refine lv_iconst (v := (-1)) hx hb dX8_whyBoxNotThrown_21 (by decide) ?_
    obtain rfl := Option.some.inj h
    exact e_i hx hb hr hlocks hP hS dX8_whyBoxNotThrown_22
  · have h := (if_neg c3).symm.trans h
    refine lv_aload_n hx hb dX8_whyBoxNotThrown_8 rfl (lv_at hl 0 rfl) ?_
    refine lv_aload_n hx hb dX8_whyBoxNotThrown_9 rfl (lv_at hl 0 rfl) ?_
    refine lv_iload_n hx hb dX8_whyBoxNotThrown_10 rfl (lv_at hl 1 rfl) ?_
    refine lv_iconst (v := 0) hx hb dX8_whyBoxNotThrown_11 (by decide) ?_
    obtain ⟨q4, e5, h⟩ := ob h
    refine fr_ir (M := (modelW cyI m0 m1 m2 m3 m4 m5 m6 state history recorded slots isSaved pad padLength opened pos letter first second)) (va_runV (As := [.int x1, .int 0]) (rest := [.ref m0]) ⟨hx, hb, hml, hown, hts⟩ (mX8_boxPart l dC dI cyI cyO m0 m1 m2 m3 m4 m5 m6 state history recorded slots isSaved pad padLength opened pos letter first second x1 0 _ q4 e5) (cwV 2 hts (gV ml_X8_51 im_X8_boxPart se_X8_boxPart in_X8 co_X8_boxPart) rfl rfl rfl (by decide +kernel) ⟨Nat.le_of_ble_eq_true rfl, Nat.le_of_ble_eq_true rfl⟩) (cP_V hK hP hD [0, 1, 2, 3, 4, 5, 6] rfl rfl 0 rfl rfl) rfl rfl hl.1 rfl (lv_room (Nat.le_of_ble_eq_true rfl)) dX8_whyBoxNotThrown_12 ⟨Nat.zero_le _, Nat.zero_le _⟩) hP hD hS hA [0, 1, 2, 3, 4, 5, 6] rfl (fun H locs hP hS => ?_)
    obtain ⟨q6, e7, h⟩ := ob h
    refine fr_ir (M := (modelW cyI m0 m1 m2 m3 m4 m5 m6 state history recorded slots isSaved pad padLength opened pos letter first second)) (va_runV (As := [.int q4]) (rest := []) ⟨hx, hb, hml, hown, hts⟩ (mX8_whyNotThrown l dC dI cyI cyO m0 m1 m2 m3 m4 m5 m6 state history recorded slots isSaved pad padLength opened pos letter first second q4 _ q6 e7) (cwV 1 hts (gV ml_X8_162 im_X8_whyNotThrown se_X8_whyNotThrown in_X8 co_X8_whyNotThrown) rfl rfl rfl (by decide +kernel) ⟨Nat.le_of_ble_eq_true rfl, Nat.le_of_ble_eq_true rfl⟩) (cP_V hK hP hD [0, 1, 2, 3, 4, 5, 6] rfl rfl 0 rfl rfl) rfl rfl hl.1 rfl (lv_room (Nat.le_of_ble_eq_true rfl)) dX8_whyBoxNotThrown_15 ⟨Nat.zero_le _, Nat.zero_le _⟩) hP hD hS hA [0, 1, 2, 3, 4, 5, 6] rfl (fun H locs hP hS => ?_)
    refine lv_goto (tgt := 22) hx hb dX8_whyBoxNotThrown_18 (by decide) ?_
    obtain rfl := Option.some.inj h
    exact e_i hx hb hr hlocks hP hS dX8_whyBoxNotThrown_22

noncomputable def fX8_boxThrown (state : Nat → Int32) (x1 : Int32) : Option (Int32 × (Nat → Int32)) :=
  ((fX8_boxPart state x1 0).bind fun q1 => ((fX8_throwMakes state q1).bind fun q3 => ((fX8_setBox state x1 1 0).bind fun q5 => ((fX8_boxPart q5 x1 0).bind fun q7 => ((fX8_makesAboveAnew q5 q7).bind fun q9 => (some (q3, q9)))))))
set_option maxHeartbeats 1000000 in
set_option maxRecDepth 100000 in
theorem mX8_boxThrown (l : Launch) (dC : Nat → ClassId) (dI : Nat → Nat → Nat) (cyI cyO : ClassId) (m0 m1 m2 m3 m4 m5 m6 : Nat) (state : Nat → Int32) (history : Nat → Int32) (recorded : Int32) (slots : Nat → Int32) (isSaved : Nat → Int32) (pad : Nat → Int32) (padLength : Int32) (opened : Nat → Int32) (pos : Int32) (letter : Int32) (first : Int32) (second : Int32) (x1 : Int32) (sz : Nat) (res : Int32 × (Nat → Int32)) (h : fX8_boxThrown state x1 = some res) : Met l yX8_boxThrown (wsG yX8_boxThrown cX8_boxThrown 3 (some .int)) ({ frames := 5, cells := 0, slots := 0, locals := 112 }) (cP dC dI cyI cyO sz [.ref m0, .int x1] (modelW cyI m0 m1 m2 m3 m4 m5 m6 state history recorded slots isSaved pad padLength opened pos letter first second)) (cI dC dI res.1 (modelW cyI m0 m1 m2 m3 m4 m5 m6 res.2 history recorded slots isSaved pad padLength opened pos letter first second) (va_A (modelW cyI m0 m1 m2 m3 m4 m5 m6 state history recorded slots isSaved pad padLength opened pos letter first second) sz)) 0 0 (va_A (modelW cyI m0 m1 m2 m3 m4 m5 m6 state history recorded slots isSaved pad padLength opened pos letter first second) sz) := by
  refine Met.ofW (cc := cX8_boxThrown) (maxL := 3) (ret := (some .int)) (by decide) rfl ?_
  intro p e s m args below meth c s₁ B hml hv
  obtain ⟨rfl, hsz, hP, hK, hD0⟩ := hv
  have hx := B.exec
  have hb := B.bytes
  have hr := B.returns
  have hts := atoms_spec (ws := wsG yX8_boxThrown cX8_boxThrown 3 (some .int)) B.pre
  have hown : s.vm.findClass RX8 = some m.cls := findClass_of_methodNamed B.named
  have hlocks := B.notSynchronized
  subst hsz
  have hD := hD0.self (sz := s.heap.size)
  generalize hAe : va_A (modelW cyI m0 m1 m2 m3 m4 m5 m6 state history recorded slots isSaved pad padLength opened pos letter first second) s.heap.size = A at hD ⊢
  have hA : ∀ q : Nat, s.heap.size ≤ q → A q := fun q h => by rw [← hAe]; exact Or.inr h
  have hS : va_S A s.heap s.heap [] := va_S.rf
  have hl := lv_entry ([.ref m0, .int x1]) (n := 3) (Nat.le_of_ble_eq_true rfl)
  rw [lg_entry_eq]
  generalize (lg_sl ([.ref m0, .int x1]) ++ List.replicate (3 - (lg_sl ([.ref m0, .int x1])).length) Slot.unset).toArray = ls at hl ⊢
  have hl : lv_has ls 3 [(0, .ref m0), (1, .int x1)] := hl
  unfold fX8_boxThrown at h
  refine lv_aload_n hx hb dX8_boxThrown_0 rfl (lv_at hl 0 rfl) ?_
  refine lv_aload_n hx hb dX8_boxThrown_1 rfl (lv_at hl 0 rfl) ?_
  refine lv_iload_n hx hb dX8_boxThrown_2 rfl (lv_at hl 1 rfl) ?_
  refine lv_iconst (v := 0) hx hb dX8_boxThrown_3 (by decide) ?_
  obtain ⟨q1, e2, h⟩ := ob h
  refine fr_ir (M := (modelW cyI m0 m1 m2 m3 m4 m5 m6 state history recorded slots isSaved pad padLength opened pos letter first second)) (va_runV (As := [.int x1, .int 0]) (rest := [.ref m0]) ⟨hx, hb, hml, hown, hts⟩ (mX8_boxPart l dC dI cyI cyO m0 m1 m2 m3 m4 m5 m6 state history recorded slots isSaved pad padLength opened pos letter first second x1 0 _ q1 e2) (cwV 2 hts (gV ml_X8_51 im_X8_boxPart se_X8_boxPart in_X8 co_X8_boxPart) rfl rfl rfl (by decide +kernel) ⟨Nat.le_of_ble_eq_true rfl, Nat.le_of_ble_eq_true rfl⟩) (cP_V hK hP hD [0, 1, 2, 3, 4, 5, 6] rfl rfl 0 rfl rfl) rfl rfl hl.1 rfl (lv_room (Nat.le_of_ble_eq_true rfl)) dX8_boxThrown_4 ⟨Nat.zero_le _, Nat.zero_le _⟩) hP hD hS hA [0, 1, 2, 3, 4, 5, 6] rfl (fun H locs hP hS => ?_)
  obtain ⟨q3, e4, h⟩ := ob h
  refine fr_ir (M := (modelW cyI m0 m1 m2 m3 m4 m5 m6 state history recorded slots isSaved pad padLength opened pos letter first second)) (va_runV (As := [.int q1]) (rest := []) ⟨hx, hb, hml, hown, hts⟩ (mX8_throwMakes l dC dI cyI cyO m0 m1 m2 m3 m4 m5 m6 state history recorded slots isSaved pad padLength opened pos letter first second q1 _ q3 e4) (cwV 1 hts (gV ml_X8_153 im_X8_throwMakes se_X8_throwMakes in_X8 co_X8_throwMakes) rfl rfl rfl (by decide +kernel) ⟨Nat.le_of_ble_eq_true rfl, Nat.le_of_ble_eq_true rfl⟩) (cP_V hK hP hD [0, 1, 2, 3, 4, 5, 6] rfl rfl 0 rfl rfl) rfl rfl hl.1 rfl (lv_room (Nat.le_of_ble_eq_true rfl)) dX8_boxThrown_7 ⟨Nat.zero_le _, Nat.zero_le _⟩) hP hD hS hA [0, 1, 2, 3, 4, 5, 6] rfl (fun H locs hP hS => ?_)
  refine lv_istore_n (lv' := [(2, .int q3), (0, .ref m0), (1, .int x1)]) hx hb dX8_boxThrown_10 rfl hl (by decide) rfl (fun ls hl => ?_)
  refine lv_aload_n hx hb dX8_boxThrown_11 rfl (lv_at hl 1 rfl) ?_
  refine lv_iload_n hx hb dX8_boxThrown_12 rfl (lv_at hl 2 rfl) ?_
  refine lv_iconst (v := 1) hx hb dX8_boxThrown_13 (by decide) ?_
  refine lv_iconst (v := 0) hx hb dX8_boxThrown_14 (by decide) ?_
  obtain ⟨q5, e6, h⟩ := ob h
  refine fr_v (M := (modelW cyI m0 m1 m2 m3 m4 m5 m6 state history recorded slots isSaved pad padLength opened pos letter first second)) (M' := (modelW cyI m0 m1 m2 m3 m4 m5 m6 q5 history recorded slots isSaved pad padLength opened pos letter first second)) (L' := (modelW cyI m0 m1 m2 m3 m4 m5 m6 q5 history recorded slots isSaved pad padLength opened pos letter first second)) (va_runV (As := [.int x1, .int 1, .int 0]) (rest := []) ⟨hx, hb, hml, hown, hts⟩ (mX8_setBox l dC dI cyI cyO m0 m1 m2 m3 m4 m5 m6 state history recorded slots isSaved pad padLength opened pos letter first second x1 1 0 _ q5 e6) (cwV 3 hts (gV ml_X8_117 im_X8_setBox se_X8_setBox in_X8 co_X8_setBox) rfl rfl rfl (by decide +kernel) ⟨Nat.le_of_ble_eq_true rfl, Nat.le_of_ble_eq_true rfl⟩) (cP_V hK hP hD [0, 1, 2, 3, 4, 5, 6] rfl rfl 0 rfl rfl) rfl rfl hl.1 rfl (lv_room (Nat.le_of_ble_eq_true rfl)) dX8_boxThrown_15 ⟨Nat.zero_le _, Nat.zero_le _⟩) hP hD hS hA [0, 1, 2, 3, 4, 5, 6] rfl [(true, 0), (true, 1), (true, 2), (true, 3), (true, 4), (true, 5), (true, 6)] rfl rfl rfl (fun H locs hP hD hS => ?_)
  refine lv_aload_n hx hb dX8_boxThrown_18 rfl (lv_at hl 1 rfl) ?_
  refine lv_aload_n hx hb dX8_boxThrown_19 rfl (lv_at hl 1 rfl) ?_
  refine lv_iload_n hx hb dX8_boxThrown_20 rfl (lv_at hl 2 rfl) ?_
  refine lv_iconst (v := 0) hx hb dX8_boxThrown_21 (by decide) ?_
  obtain ⟨q7, e8, h⟩ := ob h
  refine fr_ir (M := (modelW cyI m0 m1 m2 m3 m4 m5 m6 q5 history recorded slots isSaved pad padLength opened pos letter first second)) (va_runV (As := [.int x1, .int 0]) (rest := [.ref m0]) ⟨hx, hb, hml, hown, hts⟩ (mX8_boxPart l dC dI cyI cyO m0 m1 m2 m3 m4 m5 m6 q5 history recorded slots isSaved pad padLength opened pos letter first second x1 0 _ q7 e8) (cwV 2 hts (gV ml_X8_51 im_X8_boxPart se_X8_boxPart in_X8 co_X8_boxPart) rfl rfl rfl (by decide +kernel) ⟨Nat.le_of_ble_eq_true rfl, Nat.le_of_ble_eq_true rfl⟩) (cP_V hK hP hD [0, 1, 2, 3, 4, 5, 6] rfl rfl 0 rfl rfl) rfl rfl hl.1 rfl (lv_room (Nat.le_of_ble_eq_true rfl)) dX8_boxThrown_22 ⟨Nat.zero_le _, Nat.zero_le _⟩) hP hD hS hA [0, 1, 2, 3, 4, 5, 6] rfl (fun H locs hP hS => ?_)
  obtain ⟨q9, e10, h⟩ := ob h
  refine fr_v (M := (modelW cyI m0 m1 m2 m3 m4 m5 m6 q5 history recorded slots isSaved pad padLength opened pos letter first second)) (M' := (modelW cyI m0 m1 m2 m3 m4 m5 m6 q9 history recorded slots isSaved pad padLength opened pos letter first second)) (L' := (modelW cyI m0 m1 m2 m3 m4 m5 m6 q9 history recorded slots isSaved pad padLength opened pos letter first second)) (va_runV (As := [.int q7]) (rest := []) ⟨hx, hb, hml, hown, hts⟩ (mX8_makesAboveAnew l dC dI cyI cyO m0 m1 m2 m3 m4 m5 m6 q5 history recorded slots isSaved pad padLength opened pos letter first second q7 _ q9 e10) (cwV 1 hts (gV ml_X8_168 im_X8_makesAboveAnew se_X8_makesAboveAnew in_X8 co_X8_makesAboveAnew) rfl rfl rfl (by decide +kernel) ⟨Nat.le_of_ble_eq_true rfl, Nat.le_of_ble_eq_true rfl⟩) (cP_V hK hP hD [0, 1, 2, 3, 4, 5, 6] rfl rfl 0 rfl rfl) rfl rfl hl.1 rfl (lv_room (Nat.le_of_ble_eq_true rfl)) dX8_boxThrown_25 ⟨Nat.zero_le _, Nat.zero_le _⟩) hP hD hS hA [0, 1, 2, 3, 4, 5, 6] rfl [(true, 0), (true, 1), (true, 2), (true, 3), (true, 4), (true, 5), (true, 6)] rfl rfl rfl (fun H locs hP hD hS => ?_)
  refine lv_iload_n hx hb dX8_boxThrown_28 rfl (lv_at hl 0 rfl) ?_
  obtain rfl := Option.some.inj h
  exact e_i hx hb hr hlocks hP hS dX8_boxThrown_29

noncomputable def fX8_throwBox (state : Nat → Int32) (history : Nat → Int32) (recorded : Int32) (x1 : Int32) : Option (Int32 × (Nat → Int32) × (Nat → Int32) × Int32) :=
  ((fX8_whyBoxNotThrown state x1).bind fun q1 => (if 0 ≤ q1 then ((fX8_record state history recorded).bind fun q4 => ((fX8_boxThrown state x1).bind fun q6 => (some (q6.1, q6.2, q4.1, q4.2)))) else (some (q1, state, history, recorded))))
set_option maxHeartbeats 1000000 in
set_option maxRecDepth 100000 in
theorem mX8_throwBox (l : Launch) (dC : Nat → ClassId) (dI : Nat → Nat → Nat) (cyI cyO : ClassId) (m0 m1 m2 m3 m4 m5 m6 : Nat) (state : Nat → Int32) (history : Nat → Int32) (recorded : Int32) (slots : Nat → Int32) (isSaved : Nat → Int32) (pad : Nat → Int32) (padLength : Int32) (opened : Nat → Int32) (pos : Int32) (letter : Int32) (first : Int32) (second : Int32) (x1 : Int32) (sz : Nat) (res : Int32 × (Nat → Int32) × (Nat → Int32) × Int32) (h : fX8_throwBox state history recorded x1 = some res) : Met l yX8_throwBox (wsG yX8_throwBox cX8_throwBox 3 (some .int)) ({ frames := 6, cells := 0, slots := 0, locals := 135 }) (cP dC dI cyI cyO sz [.ref m0, .int x1] (modelW cyI m0 m1 m2 m3 m4 m5 m6 state history recorded slots isSaved pad padLength opened pos letter first second)) (cI dC dI res.1 (modelW cyI m0 m1 m2 m3 m4 m5 m6 res.2.1 res.2.2.1 res.2.2.2 slots isSaved pad padLength opened pos letter first second) (va_A (modelW cyI m0 m1 m2 m3 m4 m5 m6 state history recorded slots isSaved pad padLength opened pos letter first second) sz)) 0 0 (va_A (modelW cyI m0 m1 m2 m3 m4 m5 m6 state history recorded slots isSaved pad padLength opened pos letter first second) sz) := by
  refine Met.ofW (cc := cX8_throwBox) (maxL := 3) (ret := (some .int)) (by decide) rfl ?_
  intro p e s m args below meth c s₁ B hml hv
  obtain ⟨rfl, hsz, hP, hK, hD0⟩ := hv
  have hx := B.exec
  have hb := B.bytes
  have hr := B.returns
  have hts := atoms_spec (ws := wsG yX8_throwBox cX8_throwBox 3 (some .int)) B.pre
  have hown : s.vm.findClass RX8 = some m.cls := findClass_of_methodNamed B.named
  have hlocks := B.notSynchronized
  subst hsz
  have hD := hD0.self (sz := s.heap.size)
  generalize hAe : va_A (modelW cyI m0 m1 m2 m3 m4 m5 m6 state history recorded slots isSaved pad padLength opened pos letter first second) s.heap.size = A at hD ⊢
  have hA : ∀ q : Nat, s.heap.size ≤ q → A q := fun q h => by rw [← hAe]; exact Or.inr h
  have hS : va_S A s.heap s.heap [] := va_S.rf
  have hl := lv_entry ([.ref m0, .int x1]) (n := 3) (Nat.le_of_ble_eq_true rfl)
  rw [lg_entry_eq]
  generalize (lg_sl ([.ref m0, .int x1]) ++ List.replicate (3 - (lg_sl ([.ref m0, .int x1])).length) Slot.unset).toArray = ls at hl ⊢
  have hl : lv_has ls 3 [(0, .ref m0), (1, .int x1)] := hl
  unfold fX8_throwBox at h
  refine lv_aload_n hx hb dX8_throwBox_0 rfl (lv_at hl 0 rfl) ?_
  refine lv_iload_n hx hb dX8_throwBox_1 rfl (lv_at hl 1 rfl) ?_
  obtain ⟨q1, e2, h⟩ := ob h
  refine fr_ir (M := (modelW cyI m0 m1 m2 m3 m4 m5 m6 state history recorded slots isSaved pad padLength opened pos letter first second)) (va_runV (As := [.int x1]) (rest := []) ⟨hx, hb, hml, hown, hts⟩ (mX8_whyBoxNotThrown l dC dI cyI cyO m0 m1 m2 m3 m4 m5 m6 state history recorded slots isSaved pad padLength opened pos letter first second x1 _ q1 e2) (cwV 1 hts (gV ml_X8_180 im_X8_whyBoxNotThrown se_X8_whyBoxNotThrown in_X8 co_X8_whyBoxNotThrown) rfl rfl rfl (by decide +kernel) ⟨Nat.le_of_ble_eq_true rfl, Nat.le_of_ble_eq_true rfl⟩) (cP_V hK hP hD [0, 1, 2, 3, 4, 5, 6] rfl rfl 0 rfl rfl) rfl rfl hl.1 rfl (lv_room (Nat.le_of_ble_eq_true rfl)) dX8_throwBox_2 ⟨Nat.zero_le _, Nat.zero_le _⟩) hP hD hS hA [0, 1, 2, 3, 4, 5, 6] rfl (fun H locs hP hS => ?_)
  refine lv_istore_n (lv' := [(2, .int q1), (0, .ref m0), (1, .int x1)]) hx hb dX8_throwBox_5 rfl hl (by decide) rfl (fun ls hl => ?_)
  refine lv_iload_n hx hb dX8_throwBox_6 rfl (lv_at hl 0 rfl) ?_
  refine lv_if_ge (tgt := 12) hx hb dX8_throwBox_7 (by decide) (fun c3 => ?_) (fun c3 => ?_)
  · have h := (if_pos c3).symm.trans h
    refine lv_aload_n hx hb dX8_throwBox_12 rfl (lv_at hl 1 rfl) ?_
    obtain ⟨q4, e5, h⟩ := ob h
    refine fr_v (M := (modelW cyI m0 m1 m2 m3 m4 m5 m6 state history recorded slots isSaved pad padLength opened pos letter first second)) (M' := (modelW cyI m0 m1 m2 m3 m4 m5 m6 state q4.1 q4.2 slots isSaved pad padLength opened pos letter first second)) (L' := (modelW cyI m0 m1 m2 m3 m4 m5 m6 state q4.1 q4.2 slots isSaved pad padLength opened pos letter first second)) (va_runV (As := []) (rest := []) ⟨hx, hb, hml, hown, hts⟩ (mX8_record l dC dI cyI cyO m0 m1 m2 m3 m4 m5 m6 state history recorded slots isSaved pad padLength opened pos letter first second _ q4 e5) (cwV 0 hts (gV ml_X8_102 im_X8_record se_X8_record in_X8 co_X8_record) rfl rfl rfl (by decide +kernel) ⟨Nat.le_of_ble_eq_true rfl, Nat.le_of_ble_eq_true rfl⟩) (cP_V hK hP hD [0, 1, 2, 3, 4, 5, 6] rfl rfl 0 rfl rfl) rfl rfl hl.1 rfl (lv_room (Nat.le_of_ble_eq_true rfl)) dX8_throwBox_13 ⟨Nat.zero_le _, Nat.zero_le _⟩) hP hD hS hA [0, 1, 2, 3, 4, 5, 6] rfl [(true, 0), (true, 1), (true, 2), (true, 3), (true, 4), (true, 5), (true, 6)] rfl rfl rfl (fun H locs hP hD hS => ?_)
    refine lv_aload_n hx hb dX8_throwBox_16 rfl (lv_at hl 1 rfl) ?_
    refine lv_iload_n hx hb dX8_throwBox_17 rfl (lv_at hl 2 rfl) ?_
    obtain ⟨q6, e7, h⟩ := ob h
    refine fr_i (M := (modelW cyI m0 m1 m2 m3 m4 m5 m6 state q4.1 q4.2 slots isSaved pad padLength opened pos letter first second)) (M' := (modelW cyI m0 m1 m2 m3 m4 m5 m6 q6.2 q4.1 q4.2 slots isSaved pad padLength opened pos letter first second)) (L' := (modelW cyI m0 m1 m2 m3 m4 m5 m6 q6.2 q4.1 q4.2 slots isSaved pad padLength opened pos letter first second)) (va_runV (As := [.int x1]) (rest := []) ⟨hx, hb, hml, hown, hts⟩ (mX8_boxThrown l dC dI cyI cyO m0 m1 m2 m3 m4 m5 m6 state q4.1 q4.2 slots isSaved pad padLength opened pos letter first second x1 _ q6 e7) (cwV 1 hts (gV ml_X8_183 im_X8_boxThrown se_X8_boxThrown in_X8 co_X8_boxThrown) rfl rfl rfl (by decide +kernel) ⟨Nat.le_of_ble_eq_true rfl, Nat.le_of_ble_eq_true rfl⟩) (cP_V hK hP hD [0, 1, 2, 3, 4, 5, 6] rfl rfl 0 rfl rfl) rfl rfl hl.1 rfl (lv_room (Nat.le_of_ble_eq_true rfl)) dX8_throwBox_18 ⟨Nat.zero_le _, Nat.zero_le _⟩) hP hD hS hA [0, 1, 2, 3, 4, 5, 6] rfl [(true, 0), (true, 1), (true, 2), (true, 3), (true, 4), (true, 5), (true, 6)] rfl rfl rfl (fun H locs hP hD hS => ?_)
    obtain rfl := Option.some.inj h
    exact e_i hx hb hr hlocks hP hS dX8_throwBox_21
  · have h := (if_neg c3).symm.trans h
    refine lv_iload_n hx hb dX8_throwBox_10 rfl (lv_at hl 0 rfl) ?_
    obtain rfl := Option.some.inj h
    exact e_i hx hb hr hlocks hP hS dX8_throwBox_11

noncomputable def fX8_ofKey (state : Nat → Int32) (x1 : Int32) (x2 : Int32) : Option (Int32) :=
  ((fX8_isKey state x1).bind fun q1 => (if q1 = 0 then (some (-1)) else (if x2 = 0 then ((fX8_keyPart state x1 x2).bind fun q5 => (some q5)) else (if x2 = 1 then ((fX8_keyPart state x1 x2).bind fun q8 => (some q8)) else (if x2 = 2 then ((fX8_keyPart state x1 x2).bind fun q11 => (some q11)) else (if x2 = 3 then ((fX8_keyPart state x1 x2).bind fun q14 => (some q14)) else (if x2 = 4 then ((fX8_hangingKeys state x1).bind fun q17 => (some q17)) else (if x2 = 5 then ((fX8_hangingBoxes state x1).bind fun q20 => (some q20)) else (if x2 = 6 then ((fX8_above state x1).bind fun q23 => (some q23)) else (some (-2)))))))))))
set_option maxHeartbeats 1000000 in
set_option maxRecDepth 100000 in
theorem mX8_ofKey (l : Launch) (dC : Nat → ClassId) (dI : Nat → Nat → Nat) (cyI cyO : ClassId) (m0 m1 m2 m3 m4 m5 m6 : Nat) (state : Nat → Int32) (history : Nat → Int32) (recorded : Int32) (slots : Nat → Int32) (isSaved : Nat → Int32) (pad : Nat → Int32) (padLength : Int32) (opened : Nat → Int32) (pos : Int32) (letter : Int32) (first : Int32) (second : Int32) (x1 : Int32) (x2 : Int32) (sz : Nat) (res : Int32) (h : fX8_ofKey state x1 x2 = some res) : Met l yX8_ofKey (wsG yX8_ofKey cX8_ofKey 3 (some .int)) ({ frames := 2, cells := 0, slots := 0, locals := 45 }) (cP dC dI cyI cyO sz [.ref m0, .int x1, .int x2] (modelW cyI m0 m1 m2 m3 m4 m5 m6 state history recorded slots isSaved pad padLength opened pos letter first second)) (cI dC dI res (modelW cyI m0 m1 m2 m3 m4 m5 m6 state history recorded slots isSaved pad padLength opened pos letter first second) (va_A (modelW cyI m0 m1 m2 m3 m4 m5 m6 state history recorded slots isSaved pad padLength opened pos letter first second) sz)) 0 0 (va_A (modelW cyI m0 m1 m2 m3 m4 m5 m6 state history recorded slots isSaved pad padLength opened pos letter first second) sz) := by
  refine Met.ofW (cc := cX8_ofKey) (maxL := 3) (ret := (some .int)) (by decide) rfl ?_
  intro p e s m args below meth c s₁ B hml hv
  obtain ⟨rfl, hsz, hP, hK, hD0⟩ := hv
  have hx := B.exec
  have hb := B.bytes
  have hr := B.returns
  have hts := atoms_spec (ws := wsG yX8_ofKey cX8_ofKey 3 (some .int)) B.pre
  have hown : s.vm.findClass RX8 = some m.cls := findClass_of_methodNamed B.named
  have hlocks := B.notSynchronized
  subst hsz
  have hD := hD0.self (sz := s.heap.size)
  generalize hAe : va_A (modelW cyI m0 m1 m2 m3 m4 m5 m6 state history recorded slots isSaved pad padLength opened pos letter first second) s.heap.size = A at hD ⊢
  have hA : ∀ q : Nat, s.heap.size ≤ q → A q := fun q h => by rw [← hAe]; exact Or.inr h
  have hS : va_S A s.heap s.heap [] := va_S.rf
  have hl := lv_entry ([.ref m0, .int x1, .int x2]) (n := 3) (Nat.le_of_ble_eq_true rfl)
  rw [lg_entry_eq]
  generalize (lg_sl ([.ref m0, .int x1, .int x2]) ++ List.replicate (3 - (lg_sl ([.ref m0, .int x1, .int x2])).length) Slot.unset).toArray = ls at hl ⊢
  have hl : lv_has ls 3 [(0, .ref m0), (1, .int x1), (2, .int x2)] := hl
  unfold fX8_ofKey at h
  refine lv_aload_n hx hb dX8_ofKey_0 rfl (lv_at hl 0 rfl) ?_
  refine lv_iload_n hx hb dX8_ofKey_1 rfl (lv_at hl 1 rfl) ?_
  obtain ⟨q1, e2, h⟩ := ob h
  refine fr_ir (M := (modelW cyI m0 m1 m2 m3 m4 m5 m6 state history recorded slots isSaved pad padLength opened pos letter first second)) (va_runV (As := [.int x1]) (rest := []) ⟨hx, hb, hml, hown, hts⟩ (mX8_isKey l dC dI cyI cyO m0 m1 m2 m3 m4 m5 m6 state history recorded slots isSaved pad padLength opened pos letter first second x1 _ q1 e2) (cwV 1 hts (gV ml_X8_40 im_X8_isKey se_X8_isKey in_X8 co_X8_isKey) rfl rfl rfl (by decide +kernel) ⟨Nat.le_of_ble_eq_true rfl, Nat.le_of_ble_eq_true rfl⟩) (cP_V hK hP hD [0, 1, 2, 3, 4, 5, 6] rfl rfl 0 rfl rfl) rfl rfl hl.1 rfl (lv_room (Nat.le_of_ble_eq_true rfl)) dX8_ofKey_2 ⟨Nat.zero_le _, Nat.zero_le _⟩) hP hD hS hA [0, 1, 2, 3, 4, 5, 6] rfl (fun H locs hP hS => ?_)
  refine lv_if_ne (tgt := 10) hx hb dX8_ofKey_5 (by decide) (fun c3 => ?_) (fun c3 => ?_)
  · have h := (if_neg c3).symm.trans h
    refine lv_iload_n hx hb dX8_ofKey_10 rfl (lv_at hl 2 rfl) ?_
    by_cases c4 : x2 = 0
    · have h := (if_pos c4).symm.trans h
      refine lv_tableIn (off := 41) (tgt := 52) hx hb dX8_ofKey_11 (by rw [c4]; decide) (by rw [c4]; decide) (by rw [c4]; first | done | rfl) (by decide) ?_
      refine lv_aload_n hx hb dX8_ofKey_52 rfl (lv_at hl 0 rfl) ?_
      refine lv_iload_n hx hb dX8_ofKey_53 rfl (lv_at hl 1 rfl) ?_
      refine lv_iload_n hx hb dX8_ofKey_54 rfl (lv_at hl 2 rfl) ?_
      obtain ⟨q5, e6, h⟩ := ob h
      refine fr_ir (M := (modelW cyI m0 m1 m2 m3 m4 m5 m6 state history recorded slots isSaved pad padLength opened pos letter first second)) (va_runV (As := [.int x1, .int x2]) (rest := []) ⟨hx, hb, hml, hown, hts⟩ (mX8_keyPart l dC dI cyI cyO m0 m1 m2 m3 m4 m5 m6 state history recorded slots isSaved pad padLength opened pos letter first second x1 x2 _ q5 e6) (cwV 2 hts (gV ml_X8_44 im_X8_keyPart se_X8_keyPart in_X8 co_X8_keyPart) rfl rfl rfl (by decide +kernel) ⟨Nat.le_of_ble_eq_true rfl, Nat.le_of_ble_eq_true rfl⟩) (cP_V hK hP hD [0, 1, 2, 3, 4, 5, 6] rfl rfl 0 rfl rfl) rfl rfl hl.1 rfl (lv_room (Nat.le_of_ble_eq_true rfl)) dX8_ofKey_55 ⟨Nat.zero_le _, Nat.zero_le _⟩) hP hD hS hA [0, 1, 2, 3, 4, 5, 6] rfl (fun H locs hP hS => ?_)
      obtain rfl := Option.some.inj h
      exact e_i hx hb hr hlocks hP hS dX8_ofKey_58
    · have h := (if_neg c4).symm.trans h
      by_cases c7 : x2 = 1
      · have h := (if_pos c7).symm.trans h
        refine lv_tableIn (off := 41) (tgt := 52) hx hb dX8_ofKey_11 (by rw [c7]; decide) (by rw [c7]; decide) (by rw [c7]; first | done | rfl) (by decide) ?_
        refine lv_aload_n hx hb dX8_ofKey_52 rfl (lv_at hl 0 rfl) ?_
        refine lv_iload_n hx hb dX8_ofKey_53 rfl (lv_at hl 1 rfl) ?_
        refine lv_iload_n hx hb dX8_ofKey_54 rfl (lv_at hl 2 rfl) ?_
        obtain ⟨q8, e9, h⟩ := ob h
        refine fr_ir (M := (modelW cyI m0 m1 m2 m3 m4 m5 m6 state history recorded slots isSaved pad padLength opened pos letter first second)) (va_runV (As := [.int x1, .int x2]) (rest := []) ⟨hx, hb, hml, hown, hts⟩ (mX8_keyPart l dC dI cyI cyO m0 m1 m2 m3 m4 m5 m6 state history recorded slots isSaved pad padLength opened pos letter first second x1 x2 _ q8 e9) (cwV 2 hts (gV ml_X8_44 im_X8_keyPart se_X8_keyPart in_X8 co_X8_keyPart) rfl rfl rfl (by decide +kernel) ⟨Nat.le_of_ble_eq_true rfl, Nat.le_of_ble_eq_true rfl⟩) (cP_V hK hP hD [0, 1, 2, 3, 4, 5, 6] rfl rfl 0 rfl rfl) rfl rfl hl.1 rfl (lv_room (Nat.le_of_ble_eq_true rfl)) dX8_ofKey_55 ⟨Nat.zero_le _, Nat.zero_le _⟩) hP hD hS hA [0, 1, 2, 3, 4, 5, 6] rfl (fun H locs hP hS => ?_)
        obtain rfl := Option.some.inj h
        exact e_i hx hb hr hlocks hP hS dX8_ofKey_58
      · have h := (if_neg c7).symm.trans h
        by_cases c10 : x2 = 2
        · have h := (if_pos c10).symm.trans h
          refine lv_tableIn (off := 41) (tgt := 52) hx hb dX8_ofKey_11 (by rw [c10]; decide) (by rw [c10]; decide) (by rw [c10]; first | done | rfl) (by decide) ?_
          refine lv_aload_n hx hb dX8_ofKey_52 rfl (lv_at hl 0 rfl) ?_
          refine lv_iload_n hx hb dX8_ofKey_53 rfl (lv_at hl 1 rfl) ?_
          refine lv_iload_n hx hb dX8_ofKey_54 rfl (lv_at hl 2 rfl) ?_
          obtain ⟨q11, e12, h⟩ := ob h
          refine fr_ir (M := (modelW cyI m0 m1 m2 m3 m4 m5 m6 state history recorded slots isSaved pad padLength opened pos letter first second)) (va_runV (As := [.int x1, .int x2]) (rest := []) ⟨hx, hb, hml, hown, hts⟩ (mX8_keyPart l dC dI cyI cyO m0 m1 m2 m3 m4 m5 m6 state history recorded slots isSaved pad padLength opened pos letter first second x1 x2 _ q11 e12) (cwV 2 hts (gV ml_X8_44 im_X8_keyPart se_X8_keyPart in_X8 co_X8_keyPart) rfl rfl rfl (by decide +kernel) ⟨Nat.le_of_ble_eq_true rfl, Nat.le_of_ble_eq_true rfl⟩) (cP_V hK hP hD [0, 1, 2, 3, 4, 5, 6] rfl rfl 0 rfl rfl) rfl rfl hl.1 rfl (lv_room (Nat.le_of_ble_eq_true rfl)) dX8_ofKey_55 ⟨Nat.zero_le _, Nat.zero_le _⟩) hP hD hS hA [0, 1, 2, 3, 4, 5, 6] rfl (fun H locs hP hS => ?_)
          obtain rfl := Option.some.inj h
          exact e_i hx hb hr hlocks hP hS dX8_ofKey_58
        · have h := (if_neg c10).symm.trans h
          by_cases c13 : x2 = 3
          · have h := (if_pos c13).symm.trans h
            refine lv_tableIn (off := 41) (tgt := 52) hx hb dX8_ofKey_11 (by rw [c13]; decide) (by rw [c13]; decide) (by rw [c13]; first | done | rfl) (by decide) ?_
            refine lv_aload_n hx hb dX8_ofKey_52 rfl (lv_at hl 0 rfl) ?_
            refine lv_iload_n hx hb dX8_ofKey_53 rfl (lv_at hl 1 rfl) ?_
            refine lv_iload_n hx hb dX8_ofKey_54 rfl (lv_at hl 2 rfl) ?_
            obtain ⟨q14, e15, h⟩ := ob h
            refine fr_ir (M := (modelW cyI m0 m1 m2 m3 m4 m5 m6 state history recorded slots isSaved pad padLength opened pos letter first second)) (va_runV (As := [.int x1, .int x2]) (rest := []) ⟨hx, hb, hml, hown, hts⟩ (mX8_keyPart l dC dI cyI cyO m0 m1 m2 m3 m4 m5 m6 state history recorded slots isSaved pad padLength opened pos letter first second x1 x2 _ q14 e15) (cwV 2 hts (gV ml_X8_44 im_X8_keyPart se_X8_keyPart in_X8 co_X8_keyPart) rfl rfl rfl (by decide +kernel) ⟨Nat.le_of_ble_eq_true rfl, Nat.le_of_ble_eq_true rfl⟩) (cP_V hK hP hD [0, 1, 2, 3, 4, 5, 6] rfl rfl 0 rfl rfl) rfl rfl hl.1 rfl (lv_room (Nat.le_of_ble_eq_true rfl)) dX8_ofKey_55 ⟨Nat.zero_le _, Nat.zero_le _⟩) hP hD hS hA [0, 1, 2, 3, 4, 5, 6] rfl (fun H locs hP hS => ?_)
            obtain rfl := Option.some.inj h
            exact e_i hx hb hr hlocks hP hS dX8_ofKey_58
          · have h := (if_neg c13).symm.trans h
            by_cases c16 : x2 = 4
            · have h := (if_pos c16).symm.trans h
              refine lv_tableIn (off := 48) (tgt := 59) hx hb dX8_ofKey_11 (by rw [c16]; decide) (by rw [c16]; decide) (by rw [c16]; first | done | rfl) (by decide) ?_
              refine lv_aload_n hx hb dX8_ofKey_59 rfl (lv_at hl 0 rfl) ?_
              refine lv_iload_n hx hb dX8_ofKey_60 rfl (lv_at hl 1 rfl) ?_
              obtain ⟨q17, e18, h⟩ := ob h
              refine fr_ir (M := (modelW cyI m0 m1 m2 m3 m4 m5 m6 state history recorded slots isSaved pad padLength opened pos letter first second)) (va_runV (As := [.int x1]) (rest := []) ⟨hx, hb, hml, hown, hts⟩ (mX8_hangingKeys l dC dI cyI cyO m0 m1 m2 m3 m4 m5 m6 state history recorded slots isSaved pad padLength opened pos letter first second x1 _ q17 e18) (cwV 1 hts (gV ml_X8_54 im_X8_hangingKeys se_X8_hangingKeys in_X8 co_X8_hangingKeys) rfl rfl rfl (by decide +kernel) ⟨Nat.le_of_ble_eq_true rfl, Nat.le_of_ble_eq_true rfl⟩) (cP_V hK hP hD [0, 1, 2, 3, 4, 5, 6] rfl rfl 0 rfl rfl) rfl rfl hl.1 rfl (lv_room (Nat.le_of_ble_eq_true rfl)) dX8_ofKey_61 ⟨Nat.zero_le _, Nat.zero_le _⟩) hP hD hS hA [0, 1, 2, 3, 4, 5, 6] rfl (fun H locs hP hS => ?_)
              obtain rfl := Option.some.inj h
              exact e_i hx hb hr hlocks hP hS dX8_ofKey_64
            · have h := (if_neg c16).symm.trans h
              by_cases c19 : x2 = 5
              · have h := (if_pos c19).symm.trans h
                refine lv_tableIn (off := 54) (tgt := 65) hx hb dX8_ofKey_11 (by rw [c19]; decide) (by rw [c19]; decide) (by rw [c19]; first | done | rfl) (by decide) ?_
                refine lv_aload_n hx hb dX8_ofKey_65 rfl (lv_at hl 0 rfl) ?_
                refine lv_iload_n hx hb dX8_ofKey_66 rfl (lv_at hl 1 rfl) ?_
                obtain ⟨q20, e21, h⟩ := ob h
                refine fr_ir (M := (modelW cyI m0 m1 m2 m3 m4 m5 m6 state history recorded slots isSaved pad padLength opened pos letter first second)) (va_runV (As := [.int x1]) (rest := []) ⟨hx, hb, hml, hown, hts⟩ (mX8_hangingBoxes l dC dI cyI cyO m0 m1 m2 m3 m4 m5 m6 state history recorded slots isSaved pad padLength opened pos letter first second x1 _ q20 e21) (cwV 1 hts (gV ml_X8_61 im_X8_hangingBoxes se_X8_hangingBoxes in_X8 co_X8_hangingBoxes) rfl rfl rfl (by decide +kernel) ⟨Nat.le_of_ble_eq_true rfl, Nat.le_of_ble_eq_true rfl⟩) (cP_V hK hP hD [0, 1, 2, 3, 4, 5, 6] rfl rfl 0 rfl rfl) rfl rfl hl.1 rfl (lv_room (Nat.le_of_ble_eq_true rfl)) dX8_ofKey_67 ⟨Nat.zero_le _, Nat.zero_le _⟩) hP hD hS hA [0, 1, 2, 3, 4, 5, 6] rfl (fun H locs hP hS => ?_)
                obtain rfl := Option.some.inj h
                exact e_i hx hb hr hlocks hP hS dX8_ofKey_70
              · have h := (if_neg c19).symm.trans h
                by_cases c22 : x2 = 6
                · have h := (if_pos c22).symm.trans h
                  refine lv_tableIn (off := 60) (tgt := 71) hx hb dX8_ofKey_11 (by rw [c22]; decide) (by rw [c22]; decide) (by rw [c22]; first | done | rfl) (by decide) ?_
                  refine lv_aload_n hx hb dX8_ofKey_71 rfl (lv_at hl 0 rfl) ?_
                  refine lv_iload_n hx hb dX8_ofKey_72 rfl (lv_at hl 1 rfl) ?_
                  obtain ⟨q23, e24, h⟩ := ob h
                  refine fr_ir (M := (modelW cyI m0 m1 m2 m3 m4 m5 m6 state history recorded slots isSaved pad padLength opened pos letter first second)) (va_runV (As := [.int x1]) (rest := []) ⟨hx, hb, hml, hown, hts⟩ (mX8_above l dC dI cyI cyO m0 m1 m2 m3 m4 m5 m6 state history recorded slots isSaved pad padLength opened pos letter first second x1 _ q23 e24) (cwV 1 hts (gV ml_X8_156 im_X8_above se_X8_above in_X8 co_X8_above) rfl rfl rfl (by decide +kernel) ⟨Nat.le_of_ble_eq_true rfl, Nat.le_of_ble_eq_true rfl⟩) (cP_V hK hP hD [0, 1, 2, 3, 4, 5, 6] rfl rfl 0 rfl rfl) rfl rfl hl.1 rfl (lv_room (Nat.le_of_ble_eq_true rfl)) dX8_ofKey_73 ⟨Nat.zero_le _, Nat.zero_le _⟩) hP hD hS hA [0, 1, 2, 3, 4, 5, 6] rfl (fun H locs hP hS => ?_)
                  obtain rfl := Option.some.inj h
                  exact e_i hx hb hr hlocks hP hS dX8_ofKey_76
                · have h := (if_neg c22).symm.trans h
                  refine lv_tableOut (tgt := 77) hx hb dX8_ofKey_11 (by have := lv_neT (a := 0) c4 rfl; have := lv_neT (a := 1) c7 rfl; have := lv_neT (a := 2) c10 rfl; have := lv_neT (a := 3) c13 rfl; have := lv_neT (a := 4) c16 rfl; have := lv_neT (a := 5) c19 rfl; have := lv_neT (a := 6) c22 rfl; omega) (by decide) ?_
                  refine lv_bipush (v := (-2)) hx hb dX8_ofKey_77 (by decide) ?_
                  obtain rfl := Option.some.inj h
                  exact e_i hx hb hr hlocks hP hS dX8_ofKey_79
  · have h := (if_pos c3).symm.trans h
    refine lv_iconst (v := (-1)) hx hb dX8_ofKey_8 (by decide) ?_
    obtain rfl := Option.some.inj h
    exact e_i hx hb hr hlocks hP hS dX8_ofKey_9

noncomputable def fX8_ofBox (state : Nat → Int32) (opened : Nat → Int32) (x1 : Int32) (x2 : Int32) : Option (Int32 × (Nat → Int32)) :=
  ((fX8_isBox state x1).bind fun q1 => (if q1 = 0 then (some ((-1), opened)) else (if x2 = 0 then ((fX8_boxPart state x1 x2).bind fun q5 => (some (q5, opened))) else (if x2 = 1 then ((fX8_boxPart state x1 x2).bind fun q8 => (some (q8, opened))) else (if x2 = 2 then ((fX8_openWith state opened 0).bind fun q11 => (some (((q11.1 >>> (x1 &&& 31)) &&& 1), q11.2))) else (if x2 = 3 then ((fX8_openWith state opened 7).bind fun q14 => (some (((q14.1 >>> (x1 &&& 31)) &&& 1), q14.2))) else (some ((-2), opened))))))))
set_option maxHeartbeats 1000000 in
set_option maxRecDepth 100000 in
theorem mX8_ofBox (l : Launch) (dC : Nat → ClassId) (dI : Nat → Nat → Nat) (cyI cyO : ClassId) (m0 m1 m2 m3 m4 m5 m6 : Nat) (state : Nat → Int32) (history : Nat → Int32) (recorded : Int32) (slots : Nat → Int32) (isSaved : Nat → Int32) (pad : Nat → Int32) (padLength : Int32) (opened : Nat → Int32) (pos : Int32) (letter : Int32) (first : Int32) (second : Int32) (x1 : Int32) (x2 : Int32) (sz : Nat) (res : Int32 × (Nat → Int32)) (h : fX8_ofBox state opened x1 x2 = some res) : Met l yX8_ofBox (wsG yX8_ofBox cX8_ofBox 3 (some .int)) ({ frames := 6, cells := 0, slots := 0, locals := 138 }) (cP dC dI cyI cyO sz [.ref m0, .int x1, .int x2] (modelW cyI m0 m1 m2 m3 m4 m5 m6 state history recorded slots isSaved pad padLength opened pos letter first second)) (cI dC dI res.1 (modelW cyI m0 m1 m2 m3 m4 m5 m6 state history recorded slots isSaved pad padLength res.2 pos letter first second) (va_A (modelW cyI m0 m1 m2 m3 m4 m5 m6 state history recorded slots isSaved pad padLength opened pos letter first second) sz)) 0 0 (va_A (modelW cyI m0 m1 m2 m3 m4 m5 m6 state history recorded slots isSaved pad padLength opened pos letter first second) sz) := by
  refine Met.ofW (cc := cX8_ofBox) (maxL := 3) (ret := (some .int)) (by decide) rfl ?_
  intro p e s m args below meth c s₁ B hml hv
  obtain ⟨rfl, hsz, hP, hK, hD0⟩ := hv
  have hx := B.exec
  have hb := B.bytes
  have hr := B.returns
  have hts := atoms_spec (ws := wsG yX8_ofBox cX8_ofBox 3 (some .int)) B.pre
  have hown : s.vm.findClass RX8 = some m.cls := findClass_of_methodNamed B.named
  have hlocks := B.notSynchronized
  subst hsz
  have hD := hD0.self (sz := s.heap.size)
  generalize hAe : va_A (modelW cyI m0 m1 m2 m3 m4 m5 m6 state history recorded slots isSaved pad padLength opened pos letter first second) s.heap.size = A at hD ⊢
  have hA : ∀ q : Nat, s.heap.size ≤ q → A q := fun q h => by rw [← hAe]; exact Or.inr h
  have hS : va_S A s.heap s.heap [] := va_S.rf
  have hl := lv_entry ([.ref m0, .int x1, .int x2]) (n := 3) (Nat.le_of_ble_eq_true rfl)
  rw [lg_entry_eq]
  generalize (lg_sl ([.ref m0, .int x1, .int x2]) ++ List.replicate (3 - (lg_sl ([.ref m0, .int x1, .int x2])).length) Slot.unset).toArray = ls at hl ⊢
  have hl : lv_has ls 3 [(0, .ref m0), (1, .int x1), (2, .int x2)] := hl
  unfold fX8_ofBox at h
  refine lv_aload_n hx hb dX8_ofBox_0 rfl (lv_at hl 0 rfl) ?_
  refine lv_iload_n hx hb dX8_ofBox_1 rfl (lv_at hl 1 rfl) ?_
  obtain ⟨q1, e2, h⟩ := ob h
  refine fr_ir (M := (modelW cyI m0 m1 m2 m3 m4 m5 m6 state history recorded slots isSaved pad padLength opened pos letter first second)) (va_runV (As := [.int x1]) (rest := []) ⟨hx, hb, hml, hown, hts⟩ (mX8_isBox l dC dI cyI cyO m0 m1 m2 m3 m4 m5 m6 state history recorded slots isSaved pad padLength opened pos letter first second x1 _ q1 e2) (cwV 1 hts (gV ml_X8_48 im_X8_isBox se_X8_isBox in_X8 co_X8_isBox) rfl rfl rfl (by decide +kernel) ⟨Nat.le_of_ble_eq_true rfl, Nat.le_of_ble_eq_true rfl⟩) (cP_V hK hP hD [0, 1, 2, 3, 4, 5, 6] rfl rfl 0 rfl rfl) rfl rfl hl.1 rfl (lv_room (Nat.le_of_ble_eq_true rfl)) dX8_ofBox_2 ⟨Nat.zero_le _, Nat.zero_le _⟩) hP hD hS hA [0, 1, 2, 3, 4, 5, 6] rfl (fun H locs hP hS => ?_)
  refine lv_if_ne (tgt := 10) hx hb dX8_ofBox_5 (by decide) (fun c3 => ?_) (fun c3 => ?_)
  · have h := (if_neg c3).symm.trans h
    refine lv_iload_n hx hb dX8_ofBox_10 rfl (lv_at hl 2 rfl) ?_
    by_cases c4 : x2 = 0
    · have h := (if_pos c4).symm.trans h
      refine lv_tableIn (off := 29) (tgt := 40) hx hb dX8_ofBox_11 (by rw [c4]; decide) (by rw [c4]; decide) (by rw [c4]; first | done | rfl) (by decide) ?_
      refine lv_aload_n hx hb dX8_ofBox_40 rfl (lv_at hl 0 rfl) ?_
      refine lv_iload_n hx hb dX8_ofBox_41 rfl (lv_at hl 1 rfl) ?_
      refine lv_iload_n hx hb dX8_ofBox_42 rfl (lv_at hl 2 rfl) ?_
      obtain ⟨q5, e6, h⟩ := ob h
      refine fr_ir (M := (modelW cyI m0 m1 m2 m3 m4 m5 m6 state history recorded slots isSaved pad padLength opened pos letter first second)) (va_runV (As := [.int x1, .int x2]) (rest := []) ⟨hx, hb, hml, hown, hts⟩ (mX8_boxPart l dC dI cyI cyO m0 m1 m2 m3 m4 m5 m6 state history recorded slots isSaved pad padLength opened pos letter first second x1 x2 _ q5 e6) (cwV 2 hts (gV ml_X8_51 im_X8_boxPart se_X8_boxPart in_X8 co_X8_boxPart) rfl rfl rfl (by decide +kernel) ⟨Nat.le_of_ble_eq_true rfl, Nat.le_of_ble_eq_true rfl⟩) (cP_V hK hP hD [0, 1, 2, 3, 4, 5, 6] rfl rfl 0 rfl rfl) rfl rfl hl.1 rfl (lv_room (Nat.le_of_ble_eq_true rfl)) dX8_ofBox_43 ⟨Nat.zero_le _, Nat.zero_le _⟩) hP hD hS hA [0, 1, 2, 3, 4, 5, 6] rfl (fun H locs hP hS => ?_)
      obtain rfl := Option.some.inj h
      exact e_i hx hb hr hlocks hP hS dX8_ofBox_46
    · have h := (if_neg c4).symm.trans h
      by_cases c7 : x2 = 1
      · have h := (if_pos c7).symm.trans h
        refine lv_tableIn (off := 29) (tgt := 40) hx hb dX8_ofBox_11 (by rw [c7]; decide) (by rw [c7]; decide) (by rw [c7]; first | done | rfl) (by decide) ?_
        refine lv_aload_n hx hb dX8_ofBox_40 rfl (lv_at hl 0 rfl) ?_
        refine lv_iload_n hx hb dX8_ofBox_41 rfl (lv_at hl 1 rfl) ?_
        refine lv_iload_n hx hb dX8_ofBox_42 rfl (lv_at hl 2 rfl) ?_
        obtain ⟨q8, e9, h⟩ := ob h
        refine fr_ir (M := (modelW cyI m0 m1 m2 m3 m4 m5 m6 state history recorded slots isSaved pad padLength opened pos letter first second)) (va_runV (As := [.int x1, .int x2]) (rest := []) ⟨hx, hb, hml, hown, hts⟩ (mX8_boxPart l dC dI cyI cyO m0 m1 m2 m3 m4 m5 m6 state history recorded slots isSaved pad padLength opened pos letter first second x1 x2 _ q8 e9) (cwV 2 hts (gV ml_X8_51 im_X8_boxPart se_X8_boxPart in_X8 co_X8_boxPart) rfl rfl rfl (by decide +kernel) ⟨Nat.le_of_ble_eq_true rfl, Nat.le_of_ble_eq_true rfl⟩) (cP_V hK hP hD [0, 1, 2, 3, 4, 5, 6] rfl rfl 0 rfl rfl) rfl rfl hl.1 rfl (lv_room (Nat.le_of_ble_eq_true rfl)) dX8_ofBox_43 ⟨Nat.zero_le _, Nat.zero_le _⟩) hP hD hS hA [0, 1, 2, 3, 4, 5, 6] rfl (fun H locs hP hS => ?_)
        obtain rfl := Option.some.inj h
        exact e_i hx hb hr hlocks hP hS dX8_ofBox_46
      · have h := (if_neg c7).symm.trans h
        by_cases c10 : x2 = 2
        · have h := (if_pos c10).symm.trans h
          refine lv_tableIn (off := 36) (tgt := 47) hx hb dX8_ofBox_11 (by rw [c10]; decide) (by rw [c10]; decide) (by rw [c10]; first | done | rfl) (by decide) ?_
          refine lv_aload_n hx hb dX8_ofBox_47 rfl (lv_at hl 0 rfl) ?_
          refine lv_iconst (v := 0) hx hb dX8_ofBox_48 (by decide) ?_
          obtain ⟨q11, e12, h⟩ := ob h
          refine fr_i (M := (modelW cyI m0 m1 m2 m3 m4 m5 m6 state history recorded slots isSaved pad padLength opened pos letter first second)) (M' := (modelW cyI m0 m1 m2 m3 m4 m5 m6 state history recorded slots isSaved pad padLength q11.2 pos letter first second)) (L' := (modelW cyI m0 m1 m2 m3 m4 m5 m6 state history recorded slots isSaved pad padLength q11.2 pos letter first second)) (va_runV (As := [.int 0]) (rest := []) ⟨hx, hb, hml, hown, hts⟩ (mX8_openWith l dC dI cyI cyO m0 m1 m2 m3 m4 m5 m6 state history recorded slots isSaved pad padLength opened pos letter first second 0 _ q11 e12) (cwV 1 hts (gV ml_X8_186 im_X8_openWith se_X8_openWith in_X8 co_X8_openWith) rfl rfl rfl (by decide +kernel) ⟨Nat.le_of_ble_eq_true rfl, Nat.le_of_ble_eq_true rfl⟩) (cP_V hK hP hD [0, 1, 2, 3, 4, 5, 6] rfl rfl 0 rfl rfl) rfl rfl hl.1 rfl (lv_room (Nat.le_of_ble_eq_true rfl)) dX8_ofBox_49 ⟨Nat.zero_le _, Nat.zero_le _⟩) hP hD hS hA [0, 1, 2, 3, 4, 5, 6] rfl [(true, 0), (true, 1), (true, 2), (true, 3), (true, 4), (true, 5), (true, 6)] rfl rfl rfl (fun H locs hP hD hS => ?_)
          refine lv_iload_n hx hb dX8_ofBox_52 rfl (lv_at hl 1 rfl) ?_
          refine lv_ishr hx hb dX8_ofBox_53 ?_
          refine lv_iconst (v := 1) hx hb dX8_ofBox_54 (by decide) ?_
          refine lv_iand hx hb dX8_ofBox_55 ?_
          obtain rfl := Option.some.inj h
          exact e_i hx hb hr hlocks hP hS dX8_ofBox_56
        · have h := (if_neg c10).symm.trans h
          by_cases c13 : x2 = 3
          · have h := (if_pos c13).symm.trans h
            refine lv_tableIn (off := 46) (tgt := 57) hx hb dX8_ofBox_11 (by rw [c13]; decide) (by rw [c13]; decide) (by rw [c13]; first | done | rfl) (by decide) ?_
            refine lv_aload_n hx hb dX8_ofBox_57 rfl (lv_at hl 0 rfl) ?_
            refine lv_bipush (v := 7) hx hb dX8_ofBox_58 (by decide) ?_
            obtain ⟨q14, e15, h⟩ := ob h
            refine fr_i (M := (modelW cyI m0 m1 m2 m3 m4 m5 m6 state history recorded slots isSaved pad padLength opened pos letter first second)) (M' := (modelW cyI m0 m1 m2 m3 m4 m5 m6 state history recorded slots isSaved pad padLength q14.2 pos letter first second)) (L' := (modelW cyI m0 m1 m2 m3 m4 m5 m6 state history recorded slots isSaved pad padLength q14.2 pos letter first second)) (va_runV (As := [.int 7]) (rest := []) ⟨hx, hb, hml, hown, hts⟩ (mX8_openWith l dC dI cyI cyO m0 m1 m2 m3 m4 m5 m6 state history recorded slots isSaved pad padLength opened pos letter first second 7 _ q14 e15) (cwV 1 hts (gV ml_X8_186 im_X8_openWith se_X8_openWith in_X8 co_X8_openWith) rfl rfl rfl (by decide +kernel) ⟨Nat.le_of_ble_eq_true rfl, Nat.le_of_ble_eq_true rfl⟩) (cP_V hK hP hD [0, 1, 2, 3, 4, 5, 6] rfl rfl 0 rfl rfl) rfl rfl hl.1 rfl (lv_room (Nat.le_of_ble_eq_true rfl)) dX8_ofBox_60 ⟨Nat.zero_le _, Nat.zero_le _⟩) hP hD hS hA [0, 1, 2, 3, 4, 5, 6] rfl [(true, 0), (true, 1), (true, 2), (true, 3), (true, 4), (true, 5), (true, 6)] rfl rfl rfl (fun H locs hP hD hS => ?_)
            refine lv_iload_n hx hb dX8_ofBox_63 rfl (lv_at hl 1 rfl) ?_
            refine lv_ishr hx hb dX8_ofBox_64 ?_
            refine lv_iconst (v := 1) hx hb dX8_ofBox_65 (by decide) ?_
            refine lv_iand hx hb dX8_ofBox_66 ?_
            obtain rfl := Option.some.inj h
            exact e_i hx hb hr hlocks hP hS dX8_ofBox_67
          · have h := (if_neg c13).symm.trans h
            refine lv_tableOut (tgt := 68) hx hb dX8_ofBox_11 (by have := lv_neT (a := 0) c4 rfl; have := lv_neT (a := 1) c7 rfl; have := lv_neT (a := 2) c10 rfl; have := lv_neT (a := 3) c13 rfl; omega) (by decide) ?_
            refine lv_bipush (v := (-2)) hx hb dX8_ofBox_68 (by decide) ?_
            obtain rfl := Option.some.inj h
            exact e_i hx hb hr hlocks hP hS dX8_ofBox_70
  · have h := (if_pos c3).symm.trans h
    refine lv_iconst (v := (-1)) hx hb dX8_ofBox_8 (by decide) ?_
    obtain rfl := Option.some.inj h
    exact e_i hx hb hr hlocks hP hS dX8_ofBox_9

noncomputable def fX8_wrap (state : Nat → Int32) (x1 : Int32) (x2 : Int32) : Option (Int32) :=
  (if (3 : Int32) < 0 ∨ 844 ≤ (3 : Int32).toNatClampNeg then none else (if (fX8_within x1 0 ((state (3 : Int32).toNatClampNeg) - 1)) = 0 then (some (-1)) else (if (fX8_within x2 0 5) = 0 then (some (-2)) else ((fX8_wrapPart state x1 x2).bind fun q4 => (some q4)))))
set_option maxHeartbeats 1000000 in
set_option maxRecDepth 100000 in
theorem mX8_wrap (l : Launch) (dC : Nat → ClassId) (dI : Nat → Nat → Nat) (cyI cyO : ClassId) (m0 m1 m2 m3 m4 m5 m6 : Nat) (state : Nat → Int32) (history : Nat → Int32) (recorded : Int32) (slots : Nat → Int32) (isSaved : Nat → Int32) (pad : Nat → Int32) (padLength : Int32) (opened : Nat → Int32) (pos : Int32) (letter : Int32) (first : Int32) (second : Int32) (x1 : Int32) (x2 : Int32) (sz : Nat) (res : Int32) (h : fX8_wrap state x1 x2 = some res) : Met l yX8_wrap (wsG yX8_wrap cX8_wrap 3 (some .int)) ({ frames := 1, cells := 0, slots := 0, locals := 22 }) (cP dC dI cyI cyO sz [.ref m0, .int x1, .int x2] (modelW cyI m0 m1 m2 m3 m4 m5 m6 state history recorded slots isSaved pad padLength opened pos letter first second)) (cI dC dI res (modelW cyI m0 m1 m2 m3 m4 m5 m6 state history recorded slots isSaved pad padLength opened pos letter first second) (va_A (modelW cyI m0 m1 m2 m3 m4 m5 m6 state history recorded slots isSaved pad padLength opened pos letter first second) sz)) 0 0 (va_A (modelW cyI m0 m1 m2 m3 m4 m5 m6 state history recorded slots isSaved pad padLength opened pos letter first second) sz) := by
  refine Met.ofW (cc := cX8_wrap) (maxL := 3) (ret := (some .int)) (by decide) rfl ?_
  intro p e s m args below meth c s₁ B hml hv
  obtain ⟨rfl, hsz, hP, hK, hD0⟩ := hv
  have hx := B.exec
  have hb := B.bytes
  have hr := B.returns
  have hts := atoms_spec (ws := wsG yX8_wrap cX8_wrap 3 (some .int)) B.pre
  have hown : s.vm.findClass RX8 = some m.cls := findClass_of_methodNamed B.named
  have hlocks := B.notSynchronized
  subst hsz
  have hD := hD0.self (sz := s.heap.size)
  generalize hAe : va_A (modelW cyI m0 m1 m2 m3 m4 m5 m6 state history recorded slots isSaved pad padLength opened pos letter first second) s.heap.size = A at hD ⊢
  have hA : ∀ q : Nat, s.heap.size ≤ q → A q := fun q h => by rw [← hAe]; exact Or.inr h
  have hS : va_S A s.heap s.heap [] := va_S.rf
  have hl := lv_entry ([.ref m0, .int x1, .int x2]) (n := 3) (Nat.le_of_ble_eq_true rfl)
  rw [lg_entry_eq]
  generalize (lg_sl ([.ref m0, .int x1, .int x2]) ++ List.replicate (3 - (lg_sl ([.ref m0, .int x1, .int x2])).length) Slot.unset).toArray = ls at hl ⊢
  have hl : lv_has ls 3 [(0, .ref m0), (1, .int x1), (2, .int x2)] := hl
  unfold fX8_wrap at h
  refine lv_iload_n hx hb dX8_wrap_0 rfl (lv_at hl 1 rfl) ?_
  refine lv_iconst (v := 0) hx hb dX8_wrap_1 (by decide) ?_
  refine lv_aload_n hx hb dX8_wrap_2 rfl (lv_at hl 0 rfl) ?_
  refine va_get (D := (dC, dI)) (ci := 8) (v := .ref m1) (C := RX8) (T := TX8) (N := 12) hx hb hts (fun w h9 => gb_mem (lay_X8 w h9)) hown hK.1 hP 0 rfl rfl 0 (by decide) (hts _ (gb_mem fl_X8_7)) (fun _ h9 => h9) rfl dX8_wrap_3 ?_
  refine lv_iconst (v := 3) hx hb dX8_wrap_6 (by decide) ?_
  obtain ⟨ni1, h⟩ := ifn h
  refine va_iald hx hb hK.1 hP 1 0 rfl rfl ni1 dX8_wrap_7 ?_
  refine lv_iconst (v := 1) hx hb dX8_wrap_8 (by decide) ?_
  refine lv_isub hx hb dX8_wrap_9 ?_
  refine fr_ir (M := ([] : va_W)) (va_runS (As := [.int x1, .int 0, .int ((state (3 : Int32).toNatClampNeg) - 1)]) (rest := []) ⟨hx, hb, hml, hown, hts⟩ (mX8_within l dC dI cyI cyO x1 0 ((state (3 : Int32).toNatClampNeg) - 1) _ (fX8_within x1 0 ((state (3 : Int32).toNatClampNeg) - 1)) rfl) (va_cwS 3 hts (gS ml_X8_36 st_X8_within in_X8 co_X8_within) rfl rfl rfl (by decide +kernel) ⟨Nat.le_of_ble_eq_true rfl, Nat.le_of_ble_eq_true rfl⟩) (cP_S hK hP hD [] rfl rfl) rfl rfl hl.1 rfl (lv_room (Nat.le_of_ble_eq_true rfl)) dX8_wrap_10 ⟨Nat.zero_le _, Nat.zero_le _⟩) hP hD hS hA [] rfl (fun H locs hP hS => ?_)
  refine lv_if_ne (tgt := 18) hx hb dX8_wrap_13 (by decide) (fun c2 => ?_) (fun c2 => ?_)
  · have h := (if_neg c2).symm.trans h
    refine lv_iload_n hx hb dX8_wrap_18 rfl (lv_at hl 2 rfl) ?_
    refine lv_iconst (v := 0) hx hb dX8_wrap_19 (by decide) ?_
    refine lv_iconst (v := 5) hx hb dX8_wrap_20 (by decide) ?_
    refine fr_ir (M := ([] : va_W)) (va_runS (As := [.int x2, .int 0, .int 5]) (rest := []) ⟨hx, hb, hml, hown, hts⟩ (mX8_within l dC dI cyI cyO x2 0 5 _ (fX8_within x2 0 5) rfl) (va_cwS 3 hts (gS ml_X8_36 st_X8_within in_X8 co_X8_within) rfl rfl rfl (by decide +kernel) ⟨Nat.le_of_ble_eq_true rfl, Nat.le_of_ble_eq_true rfl⟩) (cP_S hK hP hD [] rfl rfl) rfl rfl hl.1 rfl (lv_room (Nat.le_of_ble_eq_true rfl)) dX8_wrap_21 ⟨Nat.zero_le _, Nat.zero_le _⟩) hP hD hS hA [] rfl (fun H locs hP hS => ?_)
    refine lv_if_eq (tgt := 36) hx hb dX8_wrap_24 (by decide) (fun c3 => ?_) (fun c3 => ?_)
    · have h := (if_pos c3).symm.trans h
      refine lv_bipush (v := (-2)) hx hb dX8_wrap_36 (by decide) ?_
      obtain rfl := Option.some.inj h
      exact e_i hx hb hr hlocks hP hS dX8_wrap_38
    · have h := (if_neg c3).symm.trans h
      refine lv_aload_n hx hb dX8_wrap_27 rfl (lv_at hl 0 rfl) ?_
      refine lv_iload_n hx hb dX8_wrap_28 rfl (lv_at hl 1 rfl) ?_
      refine lv_iload_n hx hb dX8_wrap_29 rfl (lv_at hl 2 rfl) ?_
      obtain ⟨q4, e5, h⟩ := ob h
      refine fr_ir (M := (modelW cyI m0 m1 m2 m3 m4 m5 m6 state history recorded slots isSaved pad padLength opened pos letter first second)) (va_runV (As := [.int x1, .int x2]) (rest := []) ⟨hx, hb, hml, hown, hts⟩ (mX8_wrapPart l dC dI cyI cyO m0 m1 m2 m3 m4 m5 m6 state history recorded slots isSaved pad padLength opened pos letter first second x1 x2 _ q4 e5) (cwV 2 hts (gV ml_X8_81 im_X8_wrapPart se_X8_wrapPart in_X8 co_X8_wrapPart) rfl rfl rfl (by decide +kernel) ⟨Nat.le_of_ble_eq_true rfl, Nat.le_of_ble_eq_true rfl⟩) (cP_V hK hP hD [0, 1, 2, 3, 4, 5, 6] rfl rfl 0 rfl rfl) rfl rfl hl.1 rfl (lv_room (Nat.le_of_ble_eq_true rfl)) dX8_wrap_30 ⟨Nat.zero_le _, Nat.zero_le _⟩) hP hD hS hA [0, 1, 2, 3, 4, 5, 6] rfl (fun H locs hP hS => ?_)
      refine lv_goto (tgt := 38) hx hb dX8_wrap_33 (by decide) ?_
      obtain rfl := Option.some.inj h
      exact e_i hx hb hr hlocks hP hS dX8_wrap_38
  · have h := (if_pos c2).symm.trans h
    refine lv_iconst (v := (-1)) hx hb dX8_wrap_16 (by decide) ?_
    obtain rfl := Option.some.inj h
    exact e_i hx hb hr hlocks hP hS dX8_wrap_17
noncomputable def fX8_liveKeys_b4 : Nat → (Nat → Int32) → Int32 → Int32 → Option (Int32)
  | 0, _, _, _ => none
  | fuel + 1, state, y1, y2 =>
  (if (1 : Int32) < 0 ∨ 844 ≤ (1 : Int32).toNatClampNeg then none else (if (state (1 : Int32).toNatClampNeg) ≤ y2 then (some y1) else ((fX8_keyPart state y2 1).bind fun q3 => fX8_liveKeys_b4 fuel state (y1 + q3) (y2 + 1))))

noncomputable def fX8_liveKeys (state : Nat → Int32) : Option (Int32) :=
  fX8_liveKeys_b4 6000 state 0 0
set_option maxHeartbeats 1000000 in
set_option maxRecDepth 100000 in
theorem mX8_liveKeys (l : Launch) (dC : Nat → ClassId) (dI : Nat → Nat → Nat) (cyI cyO : ClassId) (m0 m1 m2 m3 m4 m5 m6 : Nat) (state : Nat → Int32) (history : Nat → Int32) (recorded : Int32) (slots : Nat → Int32) (isSaved : Nat → Int32) (pad : Nat → Int32) (padLength : Int32) (opened : Nat → Int32) (pos : Int32) (letter : Int32) (first : Int32) (second : Int32)  (sz : Nat) (res : Int32) (h : fX8_liveKeys state = some res) : Met l yX8_liveKeys (wsG yX8_liveKeys cX8_liveKeys 3 (some .int)) ({ frames := 1, cells := 0, slots := 0, locals := 22 }) (cP dC dI cyI cyO sz [.ref m0] (modelW cyI m0 m1 m2 m3 m4 m5 m6 state history recorded slots isSaved pad padLength opened pos letter first second)) (cI dC dI res (modelW cyI m0 m1 m2 m3 m4 m5 m6 state history recorded slots isSaved pad padLength opened pos letter first second) (va_A (modelW cyI m0 m1 m2 m3 m4 m5 m6 state history recorded slots isSaved pad padLength opened pos letter first second) sz)) 0 0 (va_A (modelW cyI m0 m1 m2 m3 m4 m5 m6 state history recorded slots isSaved pad padLength opened pos letter first second) sz) := by
  refine Met.ofW (cc := cX8_liveKeys) (maxL := 3) (ret := (some .int)) (by decide) rfl ?_
  intro p e s m args below meth c s₁ B hml hv
  obtain ⟨rfl, hsz, hP, hK, hD0⟩ := hv
  have hx := B.exec
  have hb := B.bytes
  have hr := B.returns
  have hts := atoms_spec (ws := wsG yX8_liveKeys cX8_liveKeys 3 (some .int)) B.pre
  have hown : s.vm.findClass RX8 = some m.cls := findClass_of_methodNamed B.named
  have hlocks := B.notSynchronized
  subst hsz
  have hD := hD0.self (sz := s.heap.size)
  generalize hAe : va_A (modelW cyI m0 m1 m2 m3 m4 m5 m6 state history recorded slots isSaved pad padLength opened pos letter first second) s.heap.size = A at hD ⊢
  have hA : ∀ q : Nat, s.heap.size ≤ q → A q := fun q h => by rw [← hAe]; exact Or.inr h
  have hS : va_S A s.heap s.heap [] := va_S.rf
  have kB4 : ∀ (fuel : Nat) (state : Nat → Int32) (y1 : Int32) (y2 : Int32), fX8_liveKeys_b4 fuel state y1 y2 = some res → ∀ (H : Heap) (locs : List Loc), va_P (dC, dI) vwCl (modelW cyI m0 m1 m2 m3 m4 m5 m6 state history recorded slots isSaved pad padLength opened pos letter first second) H → va_D A (modelW cyI m0 m1 m2 m3 m4 m5 m6 state history recorded slots isSaved pad padLength opened pos letter first second) → va_S A s.heap H locs → ∀ ls : Array Slot, lv_has ls 3 [(0, .ref m0), (1, .int y1), (2, .int y2)] → W p l e (headSpec (wsG yX8_liveKeys cX8_liveKeys 3 (some .int)) ({ frames := 1, cells := 0, slots := 0, locals := 22 })).room s m (([.ref m0] : List Value).toArray) below meth c H locs 0 0 (MQ below (cI dC dI res (modelW cyI m0 m1 m2 m3 m4 m5 m6 state history recorded slots isSaved pad padLength opened pos letter first second) A) ([.ref m0] : List Value).toArray s 0 0 A) (F0 m 4 ls []) := by
    intro fuel
    induction fuel with
    | zero => intro state y1 y2 h; rw [fX8_liveKeys_b4] at h; cases h
    | succ fuel ih =>
      intro state y1 y2 h H locs hP hD hS ls hl
      rw [fX8_liveKeys_b4] at h
      refine lv_iload_n hx hb dX8_liveKeys_4 rfl (lv_at hl 2 rfl) ?_
      refine lv_aload_n hx hb dX8_liveKeys_5 rfl (lv_at hl 0 rfl) ?_
      refine va_get (D := (dC, dI)) (ci := 8) (v := .ref m1) (C := RX8) (T := TX8) (N := 12) hx hb hts (fun w h9 => gb_mem (lay_X8 w h9)) hown hK.1 hP 0 rfl rfl 0 (by decide) (hts _ (gb_mem fl_X8_7)) (fun _ h9 => h9) rfl dX8_liveKeys_6 ?_
      refine lv_iconst (v := 1) hx hb dX8_liveKeys_9 (by decide) ?_
      obtain ⟨ni1, h⟩ := ifn h
      refine va_iald hx hb hK.1 hP 1 0 rfl rfl ni1 dX8_liveKeys_10 ?_
      refine lv_icmp_ge (tgt := 29) hx hb dX8_liveKeys_11 (by decide) (fun c2 => ?_) (fun c2 => ?_)
      · have h := (if_pos c2).symm.trans h
        refine lv_iload_n hx hb dX8_liveKeys_29 rfl (lv_at hl 1 rfl) ?_
        obtain rfl := Option.some.inj h
        exact e_i hx hb hr hlocks hP hS dX8_liveKeys_30
      · have h := (if_neg c2).symm.trans h
        refine lv_iload_n hx hb dX8_liveKeys_14 rfl (lv_at hl 1 rfl) ?_
        refine lv_aload_n hx hb dX8_liveKeys_15 rfl (lv_at hl 0 rfl) ?_
        refine lv_iload_n hx hb dX8_liveKeys_16 rfl (lv_at hl 2 rfl) ?_
        refine lv_iconst (v := 1) hx hb dX8_liveKeys_17 (by decide) ?_
        obtain ⟨q3, e4, h⟩ := ob h
        refine fr_ir (M := (modelW cyI m0 m1 m2 m3 m4 m5 m6 state history recorded slots isSaved pad padLength opened pos letter first second)) (va_runV (As := [.int y2, .int 1]) (rest := [.int y1]) ⟨hx, hb, hml, hown, hts⟩ (mX8_keyPart l dC dI cyI cyO m0 m1 m2 m3 m4 m5 m6 state history recorded slots isSaved pad padLength opened pos letter first second y2 1 _ q3 e4) (cwV 2 hts (gV ml_X8_44 im_X8_keyPart se_X8_keyPart in_X8 co_X8_keyPart) rfl rfl rfl (by decide +kernel) ⟨Nat.le_of_ble_eq_true rfl, Nat.le_of_ble_eq_true rfl⟩) (cP_V hK hP hD [0, 1, 2, 3, 4, 5, 6] rfl rfl 0 rfl rfl) rfl rfl hl.1 rfl (lv_room (Nat.le_of_ble_eq_true rfl)) dX8_liveKeys_18 ⟨Nat.zero_le _, Nat.zero_le _⟩) hP hD hS hA [0, 1, 2, 3, 4, 5, 6] rfl (fun H locs hP hS => ?_)
        refine lv_iadd hx hb dX8_liveKeys_21 ?_
        refine lv_istore_n (lv' := [(1, .int (y1 + q3)), (0, .ref m0), (2, .int y2)]) hx hb dX8_liveKeys_22 rfl hl (by decide) rfl (fun ls hl => ?_)
        refine lv_iinc (v := (y2 + 1)) (lv' := [(2, .int (y2 + 1)), (1, .int (y1 + q3)), (0, .ref m0)]) hx hb dX8_liveKeys_23 hl (k := 2) rfl rfl (by decide) rfl (fun ls hl => ?_)
        refine lv_goto (tgt := 4) hx hb dX8_liveKeys_26 (by decide) ?_
        exact ih state (y1 + q3) (y2 + 1) h _ _ hP hD hS ls (lv_sub hl [2, 1, 0] rfl)
  have hl := lv_entry ([.ref m0]) (n := 3) (Nat.le_of_ble_eq_true rfl)
  rw [lg_entry_eq]
  generalize (lg_sl ([.ref m0]) ++ List.replicate (3 - (lg_sl ([.ref m0])).length) Slot.unset).toArray = ls at hl ⊢
  have hl : lv_has ls 3 [(0, .ref m0)] := hl
  unfold fX8_liveKeys at h
  refine lv_iconst (v := 0) hx hb dX8_liveKeys_0 (by decide) ?_
  refine lv_istore_n (lv' := [(1, .int 0), (0, .ref m0)]) hx hb dX8_liveKeys_1 rfl hl (by decide) rfl (fun ls hl => ?_)
  refine lv_iconst (v := 0) hx hb dX8_liveKeys_2 (by decide) ?_
  refine lv_istore_n (lv' := [(2, .int 0), (1, .int 0), (0, .ref m0)]) hx hb dX8_liveKeys_3 rfl hl (by decide) rfl (fun ls hl => ?_)
  exact kB4 6000 state 0 0 h _ _ hP hD hS ls (lv_sub hl [2, 1, 0] rfl)
noncomputable def fX8_liveBoxes_b4 : Nat → (Nat → Int32) → Int32 → Int32 → Option (Int32)
  | 0, _, _, _ => none
  | fuel + 1, state, y1, y2 =>
  (if (2 : Int32) < 0 ∨ 844 ≤ (2 : Int32).toNatClampNeg then none else (if (state (2 : Int32).toNatClampNeg) ≤ y2 then (some y1) else ((fX8_boxPart state y2 1).bind fun q3 => fX8_liveBoxes_b4 fuel state (y1 + q3) (y2 + 1))))

noncomputable def fX8_liveBoxes (state : Nat → Int32) : Option (Int32) :=
  fX8_liveBoxes_b4 6000 state 0 0
set_option maxHeartbeats 1000000 in
set_option maxRecDepth 100000 in
theorem mX8_liveBoxes (l : Launch) (dC : Nat → ClassId) (dI : Nat → Nat → Nat) (cyI cyO : ClassId) (m0 m1 m2 m3 m4 m5 m6 : Nat) (state : Nat → Int32) (history : Nat → Int32) (recorded : Int32) (slots : Nat → Int32) (isSaved : Nat → Int32) (pad : Nat → Int32) (padLength : Int32) (opened : Nat → Int32) (pos : Int32) (letter : Int32) (first : Int32) (second : Int32)  (sz : Nat) (res : Int32) (h : fX8_liveBoxes state = some res) : Met l yX8_liveBoxes (wsG yX8_liveBoxes cX8_liveBoxes 3 (some .int)) ({ frames := 1, cells := 0, slots := 0, locals := 22 }) (cP dC dI cyI cyO sz [.ref m0] (modelW cyI m0 m1 m2 m3 m4 m5 m6 state history recorded slots isSaved pad padLength opened pos letter first second)) (cI dC dI res (modelW cyI m0 m1 m2 m3 m4 m5 m6 state history recorded slots isSaved pad padLength opened pos letter first second) (va_A (modelW cyI m0 m1 m2 m3 m4 m5 m6 state history recorded slots isSaved pad padLength opened pos letter first second) sz)) 0 0 (va_A (modelW cyI m0 m1 m2 m3 m4 m5 m6 state history recorded slots isSaved pad padLength opened pos letter first second) sz) := by
  refine Met.ofW (cc := cX8_liveBoxes) (maxL := 3) (ret := (some .int)) (by decide) rfl ?_
  intro p e s m args below meth c s₁ B hml hv
  obtain ⟨rfl, hsz, hP, hK, hD0⟩ := hv
  have hx := B.exec
  have hb := B.bytes
  have hr := B.returns
  have hts := atoms_spec (ws := wsG yX8_liveBoxes cX8_liveBoxes 3 (some .int)) B.pre
  have hown : s.vm.findClass RX8 = some m.cls := findClass_of_methodNamed B.named
  have hlocks := B.notSynchronized
  subst hsz
  have hD := hD0.self (sz := s.heap.size)
  generalize hAe : va_A (modelW cyI m0 m1 m2 m3 m4 m5 m6 state history recorded slots isSaved pad padLength opened pos letter first second) s.heap.size = A at hD ⊢
  have hA : ∀ q : Nat, s.heap.size ≤ q → A q := fun q h => by rw [← hAe]; exact Or.inr h
  have hS : va_S A s.heap s.heap [] := va_S.rf
  have kB4 : ∀ (fuel : Nat) (state : Nat → Int32) (y1 : Int32) (y2 : Int32), fX8_liveBoxes_b4 fuel state y1 y2 = some res → ∀ (H : Heap) (locs : List Loc), va_P (dC, dI) vwCl (modelW cyI m0 m1 m2 m3 m4 m5 m6 state history recorded slots isSaved pad padLength opened pos letter first second) H → va_D A (modelW cyI m0 m1 m2 m3 m4 m5 m6 state history recorded slots isSaved pad padLength opened pos letter first second) → va_S A s.heap H locs → ∀ ls : Array Slot, lv_has ls 3 [(0, .ref m0), (1, .int y1), (2, .int y2)] → W p l e (headSpec (wsG yX8_liveBoxes cX8_liveBoxes 3 (some .int)) ({ frames := 1, cells := 0, slots := 0, locals := 22 })).room s m (([.ref m0] : List Value).toArray) below meth c H locs 0 0 (MQ below (cI dC dI res (modelW cyI m0 m1 m2 m3 m4 m5 m6 state history recorded slots isSaved pad padLength opened pos letter first second) A) ([.ref m0] : List Value).toArray s 0 0 A) (F0 m 4 ls []) := by
    intro fuel
    induction fuel with
    | zero => intro state y1 y2 h; rw [fX8_liveBoxes_b4] at h; cases h
    | succ fuel ih =>
      intro state y1 y2 h H locs hP hD hS ls hl
      rw [fX8_liveBoxes_b4] at h
      refine lv_iload_n hx hb dX8_liveBoxes_4 rfl (lv_at hl 2 rfl) ?_
      refine lv_aload_n hx hb dX8_liveBoxes_5 rfl (lv_at hl 0 rfl) ?_
      refine va_get (D := (dC, dI)) (ci := 8) (v := .ref m1) (C := RX8) (T := TX8) (N := 12) hx hb hts (fun w h9 => gb_mem (lay_X8 w h9)) hown hK.1 hP 0 rfl rfl 0 (by decide) (hts _ (gb_mem fl_X8_7)) (fun _ h9 => h9) rfl dX8_liveBoxes_6 ?_
      refine lv_iconst (v := 2) hx hb dX8_liveBoxes_9 (by decide) ?_
      obtain ⟨ni1, h⟩ := ifn h
      refine va_iald hx hb hK.1 hP 1 0 rfl rfl ni1 dX8_liveBoxes_10 ?_
      refine lv_icmp_ge (tgt := 29) hx hb dX8_liveBoxes_11 (by decide) (fun c2 => ?_) (fun c2 => ?_)
      · have h := (if_pos c2).symm.trans h
        refine lv_iload_n hx hb dX8_liveBoxes_29 rfl (lv_at hl 1 rfl) ?_
        obtain rfl := Option.some.inj h
        exact e_i hx hb hr hlocks hP hS dX8_liveBoxes_30
      · have h := (if_neg c2).symm.trans h
        refine lv_iload_n hx hb dX8_liveBoxes_14 rfl (lv_at hl 1 rfl) ?_
        refine lv_aload_n hx hb dX8_liveBoxes_15 rfl (lv_at hl 0 rfl) ?_
        refine lv_iload_n hx hb dX8_liveBoxes_16 rfl (lv_at hl 2 rfl) ?_
        refine lv_iconst (v := 1) hx hb dX8_liveBoxes_17 (by decide) ?_
        obtain ⟨q3, e4, h⟩ := ob h
        refine fr_ir (M := (modelW cyI m0 m1 m2 m3 m4 m5 m6 state history recorded slots isSaved pad padLength opened pos letter first second)) (va_runV (As := [.int y2, .int 1]) (rest := [.int y1]) ⟨hx, hb, hml, hown, hts⟩ (mX8_boxPart l dC dI cyI cyO m0 m1 m2 m3 m4 m5 m6 state history recorded slots isSaved pad padLength opened pos letter first second y2 1 _ q3 e4) (cwV 2 hts (gV ml_X8_51 im_X8_boxPart se_X8_boxPart in_X8 co_X8_boxPart) rfl rfl rfl (by decide +kernel) ⟨Nat.le_of_ble_eq_true rfl, Nat.le_of_ble_eq_true rfl⟩) (cP_V hK hP hD [0, 1, 2, 3, 4, 5, 6] rfl rfl 0 rfl rfl) rfl rfl hl.1 rfl (lv_room (Nat.le_of_ble_eq_true rfl)) dX8_liveBoxes_18 ⟨Nat.zero_le _, Nat.zero_le _⟩) hP hD hS hA [0, 1, 2, 3, 4, 5, 6] rfl (fun H locs hP hS => ?_)
        refine lv_iadd hx hb dX8_liveBoxes_21 ?_
        refine lv_istore_n (lv' := [(1, .int (y1 + q3)), (0, .ref m0), (2, .int y2)]) hx hb dX8_liveBoxes_22 rfl hl (by decide) rfl (fun ls hl => ?_)
        refine lv_iinc (v := (y2 + 1)) (lv' := [(2, .int (y2 + 1)), (1, .int (y1 + q3)), (0, .ref m0)]) hx hb dX8_liveBoxes_23 hl (k := 2) rfl rfl (by decide) rfl (fun ls hl => ?_)
        refine lv_goto (tgt := 4) hx hb dX8_liveBoxes_26 (by decide) ?_
        exact ih state (y1 + q3) (y2 + 1) h _ _ hP hD hS ls (lv_sub hl [2, 1, 0] rfl)
  have hl := lv_entry ([.ref m0]) (n := 3) (Nat.le_of_ble_eq_true rfl)
  rw [lg_entry_eq]
  generalize (lg_sl ([.ref m0]) ++ List.replicate (3 - (lg_sl ([.ref m0])).length) Slot.unset).toArray = ls at hl ⊢
  have hl : lv_has ls 3 [(0, .ref m0)] := hl
  unfold fX8_liveBoxes at h
  refine lv_iconst (v := 0) hx hb dX8_liveBoxes_0 (by decide) ?_
  refine lv_istore_n (lv' := [(1, .int 0), (0, .ref m0)]) hx hb dX8_liveBoxes_1 rfl hl (by decide) rfl (fun ls hl => ?_)
  refine lv_iconst (v := 0) hx hb dX8_liveBoxes_2 (by decide) ?_
  refine lv_istore_n (lv' := [(2, .int 0), (1, .int 0), (0, .ref m0)]) hx hb dX8_liveBoxes_3 rfl hl (by decide) rfl (fun ls hl => ?_)
  exact kB4 6000 state 0 0 h _ _ hP hD hS ls (lv_sub hl [2, 1, 0] rfl)
noncomputable def fX8_inHouse_b4 : Nat → (Nat → Int32) → Int32 → Int32 → Option (Int32)
  | 0, _, _, _ => none
  | fuel + 1, state, y1, y2 =>
  (if (3 : Int32) < 0 ∨ 844 ≤ (3 : Int32).toNatClampNeg then none else (if (state (3 : Int32).toNatClampNeg) ≤ y2 then (some y1) else ((fX8_wrapPart state y2 4).bind fun q3 => fX8_inHouse_b4 fuel state (y1 + q3) (y2 + 1))))

noncomputable def fX8_inHouse (state : Nat → Int32) : Option (Int32) :=
  fX8_inHouse_b4 6000 state 0 0
set_option maxHeartbeats 1000000 in
set_option maxRecDepth 100000 in
theorem mX8_inHouse (l : Launch) (dC : Nat → ClassId) (dI : Nat → Nat → Nat) (cyI cyO : ClassId) (m0 m1 m2 m3 m4 m5 m6 : Nat) (state : Nat → Int32) (history : Nat → Int32) (recorded : Int32) (slots : Nat → Int32) (isSaved : Nat → Int32) (pad : Nat → Int32) (padLength : Int32) (opened : Nat → Int32) (pos : Int32) (letter : Int32) (first : Int32) (second : Int32)  (sz : Nat) (res : Int32) (h : fX8_inHouse state = some res) : Met l yX8_inHouse (wsG yX8_inHouse cX8_inHouse 3 (some .int)) ({ frames := 1, cells := 0, slots := 0, locals := 22 }) (cP dC dI cyI cyO sz [.ref m0] (modelW cyI m0 m1 m2 m3 m4 m5 m6 state history recorded slots isSaved pad padLength opened pos letter first second)) (cI dC dI res (modelW cyI m0 m1 m2 m3 m4 m5 m6 state history recorded slots isSaved pad padLength opened pos letter first second) (va_A (modelW cyI m0 m1 m2 m3 m4 m5 m6 state history recorded slots isSaved pad padLength opened pos letter first second) sz)) 0 0 (va_A (modelW cyI m0 m1 m2 m3 m4 m5 m6 state history recorded slots isSaved pad padLength opened pos letter first second) sz) := by
  refine Met.ofW (cc := cX8_inHouse) (maxL := 3) (ret := (some .int)) (by decide) rfl ?_
  intro p e s m args below meth c s₁ B hml hv
  obtain ⟨rfl, hsz, hP, hK, hD0⟩ := hv
  have hx := B.exec
  have hb := B.bytes
  have hr := B.returns
  have hts := atoms_spec (ws := wsG yX8_inHouse cX8_inHouse 3 (some .int)) B.pre
  have hown : s.vm.findClass RX8 = some m.cls := findClass_of_methodNamed B.named
  have hlocks := B.notSynchronized
  subst hsz
  have hD := hD0.self (sz := s.heap.size)
  generalize hAe : va_A (modelW cyI m0 m1 m2 m3 m4 m5 m6 state history recorded slots isSaved pad padLength opened pos letter first second) s.heap.size = A at hD ⊢
  have hA : ∀ q : Nat, s.heap.size ≤ q → A q := fun q h => by rw [← hAe]; exact Or.inr h
  have hS : va_S A s.heap s.heap [] := va_S.rf
  have kB4 : ∀ (fuel : Nat) (state : Nat → Int32) (y1 : Int32) (y2 : Int32), fX8_inHouse_b4 fuel state y1 y2 = some res → ∀ (H : Heap) (locs : List Loc), va_P (dC, dI) vwCl (modelW cyI m0 m1 m2 m3 m4 m5 m6 state history recorded slots isSaved pad padLength opened pos letter first second) H → va_D A (modelW cyI m0 m1 m2 m3 m4 m5 m6 state history recorded slots isSaved pad padLength opened pos letter first second) → va_S A s.heap H locs → ∀ ls : Array Slot, lv_has ls 3 [(0, .ref m0), (1, .int y1), (2, .int y2)] → W p l e (headSpec (wsG yX8_inHouse cX8_inHouse 3 (some .int)) ({ frames := 1, cells := 0, slots := 0, locals := 22 })).room s m (([.ref m0] : List Value).toArray) below meth c H locs 0 0 (MQ below (cI dC dI res (modelW cyI m0 m1 m2 m3 m4 m5 m6 state history recorded slots isSaved pad padLength opened pos letter first second) A) ([.ref m0] : List Value).toArray s 0 0 A) (F0 m 4 ls []) := by
    intro fuel
    induction fuel with
    | zero => intro state y1 y2 h; rw [fX8_inHouse_b4] at h; cases h
    | succ fuel ih =>
      intro state y1 y2 h H locs hP hD hS ls hl
      rw [fX8_inHouse_b4] at h
      refine lv_iload_n hx hb dX8_inHouse_4 rfl (lv_at hl 2 rfl) ?_
      refine lv_aload_n hx hb dX8_inHouse_5 rfl (lv_at hl 0 rfl) ?_
      refine va_get (D := (dC, dI)) (ci := 8) (v := .ref m1) (C := RX8) (T := TX8) (N := 12) hx hb hts (fun w h9 => gb_mem (lay_X8 w h9)) hown hK.1 hP 0 rfl rfl 0 (by decide) (hts _ (gb_mem fl_X8_7)) (fun _ h9 => h9) rfl dX8_inHouse_6 ?_
      refine lv_iconst (v := 3) hx hb dX8_inHouse_9 (by decide) ?_
      obtain ⟨ni1, h⟩ := ifn h
      refine va_iald hx hb hK.1 hP 1 0 rfl rfl ni1 dX8_inHouse_10 ?_
      refine lv_icmp_ge (tgt := 29) hx hb dX8_inHouse_11 (by decide) (fun c2 => ?_) (fun c2 => ?_)
      · have h := (if_pos c2).symm.trans h
        refine lv_iload_n hx hb dX8_inHouse_29 rfl (lv_at hl 1 rfl) ?_
        obtain rfl := Option.some.inj h
        exact e_i hx hb hr hlocks hP hS dX8_inHouse_30
      · have h := (if_neg c2).symm.trans h
        refine lv_iload_n hx hb dX8_inHouse_14 rfl (lv_at hl 1 rfl) ?_
        refine lv_aload_n hx hb dX8_inHouse_15 rfl (lv_at hl 0 rfl) ?_
        refine lv_iload_n hx hb dX8_inHouse_16 rfl (lv_at hl 2 rfl) ?_
        refine lv_iconst (v := 4) hx hb dX8_inHouse_17 (by decide) ?_
        obtain ⟨q3, e4, h⟩ := ob h
        refine fr_ir (M := (modelW cyI m0 m1 m2 m3 m4 m5 m6 state history recorded slots isSaved pad padLength opened pos letter first second)) (va_runV (As := [.int y2, .int 4]) (rest := [.int y1]) ⟨hx, hb, hml, hown, hts⟩ (mX8_wrapPart l dC dI cyI cyO m0 m1 m2 m3 m4 m5 m6 state history recorded slots isSaved pad padLength opened pos letter first second y2 4 _ q3 e4) (cwV 2 hts (gV ml_X8_81 im_X8_wrapPart se_X8_wrapPart in_X8 co_X8_wrapPart) rfl rfl rfl (by decide +kernel) ⟨Nat.le_of_ble_eq_true rfl, Nat.le_of_ble_eq_true rfl⟩) (cP_V hK hP hD [0, 1, 2, 3, 4, 5, 6] rfl rfl 0 rfl rfl) rfl rfl hl.1 rfl (lv_room (Nat.le_of_ble_eq_true rfl)) dX8_inHouse_18 ⟨Nat.zero_le _, Nat.zero_le _⟩) hP hD hS hA [0, 1, 2, 3, 4, 5, 6] rfl (fun H locs hP hS => ?_)
        refine lv_iadd hx hb dX8_inHouse_21 ?_
        refine lv_istore_n (lv' := [(1, .int (y1 + q3)), (0, .ref m0), (2, .int y2)]) hx hb dX8_inHouse_22 rfl hl (by decide) rfl (fun ls hl => ?_)
        refine lv_iinc (v := (y2 + 1)) (lv' := [(2, .int (y2 + 1)), (1, .int (y1 + q3)), (0, .ref m0)]) hx hb dX8_inHouse_23 hl (k := 2) rfl rfl (by decide) rfl (fun ls hl => ?_)
        refine lv_goto (tgt := 4) hx hb dX8_inHouse_26 (by decide) ?_
        exact ih state (y1 + q3) (y2 + 1) h _ _ hP hD hS ls (lv_sub hl [2, 1, 0] rfl)
  have hl := lv_entry ([.ref m0]) (n := 3) (Nat.le_of_ble_eq_true rfl)
  rw [lg_entry_eq]
  generalize (lg_sl ([.ref m0]) ++ List.replicate (3 - (lg_sl ([.ref m0])).length) Slot.unset).toArray = ls at hl ⊢
  have hl : lv_has ls 3 [(0, .ref m0)] := hl
  unfold fX8_inHouse at h
  refine lv_iconst (v := 0) hx hb dX8_inHouse_0 (by decide) ?_
  refine lv_istore_n (lv' := [(1, .int 0), (0, .ref m0)]) hx hb dX8_inHouse_1 rfl hl (by decide) rfl (fun ls hl => ?_)
  refine lv_iconst (v := 0) hx hb dX8_inHouse_2 (by decide) ?_
  refine lv_istore_n (lv' := [(2, .int 0), (1, .int 0), (0, .ref m0)]) hx hb dX8_inHouse_3 rfl hl (by decide) rfl (fun ls hl => ?_)
  exact kB4 6000 state 0 0 h _ _ hP hD hS ls (lv_sub hl [2, 1, 0] rfl)
noncomputable def fX8_outside_b4 : Nat → (Nat → Int32) → Int32 → Int32 → Option (Int32)
  | 0, _, _, _ => none
  | fuel + 1, state, y1, y2 =>
  (if (3 : Int32) < 0 ∨ 844 ≤ (3 : Int32).toNatClampNeg then none else (if (state (3 : Int32).toNatClampNeg) ≤ y2 then (some y1) else ((fX8_wrapPart state y2 5).bind fun q3 => ((fX8_bits q3).bind fun q5 => fX8_outside_b4 fuel state (y1 + q5) (y2 + 1)))))

noncomputable def fX8_outside (state : Nat → Int32) : Option (Int32) :=
  fX8_outside_b4 6000 state 0 0
set_option maxHeartbeats 1000000 in
set_option maxRecDepth 100000 in
theorem mX8_outside (l : Launch) (dC : Nat → ClassId) (dI : Nat → Nat → Nat) (cyI cyO : ClassId) (m0 m1 m2 m3 m4 m5 m6 : Nat) (state : Nat → Int32) (history : Nat → Int32) (recorded : Int32) (slots : Nat → Int32) (isSaved : Nat → Int32) (pad : Nat → Int32) (padLength : Int32) (opened : Nat → Int32) (pos : Int32) (letter : Int32) (first : Int32) (second : Int32)  (sz : Nat) (res : Int32) (h : fX8_outside state = some res) : Met l yX8_outside (wsG yX8_outside cX8_outside 3 (some .int)) ({ frames := 1, cells := 0, slots := 0, locals := 22 }) (cP dC dI cyI cyO sz [.ref m0] (modelW cyI m0 m1 m2 m3 m4 m5 m6 state history recorded slots isSaved pad padLength opened pos letter first second)) (cI dC dI res (modelW cyI m0 m1 m2 m3 m4 m5 m6 state history recorded slots isSaved pad padLength opened pos letter first second) (va_A (modelW cyI m0 m1 m2 m3 m4 m5 m6 state history recorded slots isSaved pad padLength opened pos letter first second) sz)) 0 0 (va_A (modelW cyI m0 m1 m2 m3 m4 m5 m6 state history recorded slots isSaved pad padLength opened pos letter first second) sz) := by
  refine Met.ofW (cc := cX8_outside) (maxL := 3) (ret := (some .int)) (by decide) rfl ?_
  intro p e s m args below meth c s₁ B hml hv
  obtain ⟨rfl, hsz, hP, hK, hD0⟩ := hv
  have hx := B.exec
  have hb := B.bytes
  have hr := B.returns
  have hts := atoms_spec (ws := wsG yX8_outside cX8_outside 3 (some .int)) B.pre
  have hown : s.vm.findClass RX8 = some m.cls := findClass_of_methodNamed B.named
  have hlocks := B.notSynchronized
  subst hsz
  have hD := hD0.self (sz := s.heap.size)
  generalize hAe : va_A (modelW cyI m0 m1 m2 m3 m4 m5 m6 state history recorded slots isSaved pad padLength opened pos letter first second) s.heap.size = A at hD ⊢
  have hA : ∀ q : Nat, s.heap.size ≤ q → A q := fun q h => by rw [← hAe]; exact Or.inr h
  have hS : va_S A s.heap s.heap [] := va_S.rf
  have kB4 : ∀ (fuel : Nat) (state : Nat → Int32) (y1 : Int32) (y2 : Int32), fX8_outside_b4 fuel state y1 y2 = some res → ∀ (H : Heap) (locs : List Loc), va_P (dC, dI) vwCl (modelW cyI m0 m1 m2 m3 m4 m5 m6 state history recorded slots isSaved pad padLength opened pos letter first second) H → va_D A (modelW cyI m0 m1 m2 m3 m4 m5 m6 state history recorded slots isSaved pad padLength opened pos letter first second) → va_S A s.heap H locs → ∀ ls : Array Slot, lv_has ls 3 [(0, .ref m0), (1, .int y1), (2, .int y2)] → W p l e (headSpec (wsG yX8_outside cX8_outside 3 (some .int)) ({ frames := 1, cells := 0, slots := 0, locals := 22 })).room s m (([.ref m0] : List Value).toArray) below meth c H locs 0 0 (MQ below (cI dC dI res (modelW cyI m0 m1 m2 m3 m4 m5 m6 state history recorded slots isSaved pad padLength opened pos letter first second) A) ([.ref m0] : List Value).toArray s 0 0 A) (F0 m 4 ls []) := by
    intro fuel
    induction fuel with
    | zero => intro state y1 y2 h; rw [fX8_outside_b4] at h; cases h
    | succ fuel ih =>
      intro state y1 y2 h H locs hP hD hS ls hl
      rw [fX8_outside_b4] at h
      refine lv_iload_n hx hb dX8_outside_4 rfl (lv_at hl 2 rfl) ?_
      refine lv_aload_n hx hb dX8_outside_5 rfl (lv_at hl 0 rfl) ?_
      refine va_get (D := (dC, dI)) (ci := 8) (v := .ref m1) (C := RX8) (T := TX8) (N := 12) hx hb hts (fun w h9 => gb_mem (lay_X8 w h9)) hown hK.1 hP 0 rfl rfl 0 (by decide) (hts _ (gb_mem fl_X8_7)) (fun _ h9 => h9) rfl dX8_outside_6 ?_
      refine lv_iconst (v := 3) hx hb dX8_outside_9 (by decide) ?_
      obtain ⟨ni1, h⟩ := ifn h
      refine va_iald hx hb hK.1 hP 1 0 rfl rfl ni1 dX8_outside_10 ?_
      refine lv_icmp_ge (tgt := 32) hx hb dX8_outside_11 (by decide) (fun c2 => ?_) (fun c2 => ?_)
      · have h := (if_pos c2).symm.trans h
        refine lv_iload_n hx hb dX8_outside_32 rfl (lv_at hl 1 rfl) ?_
        obtain rfl := Option.some.inj h
        exact e_i hx hb hr hlocks hP hS dX8_outside_33
      · have h := (if_neg c2).symm.trans h
        refine lv_iload_n hx hb dX8_outside_14 rfl (lv_at hl 1 rfl) ?_
        refine lv_aload_n hx hb dX8_outside_15 rfl (lv_at hl 0 rfl) ?_
        refine lv_iload_n hx hb dX8_outside_16 rfl (lv_at hl 2 rfl) ?_
        refine lv_iconst (v := 5) hx hb dX8_outside_17 (by decide) ?_
        obtain ⟨q3, e4, h⟩ := ob h
        refine fr_ir (M := (modelW cyI m0 m1 m2 m3 m4 m5 m6 state history recorded slots isSaved pad padLength opened pos letter first second)) (va_runV (As := [.int y2, .int 5]) (rest := [.int y1]) ⟨hx, hb, hml, hown, hts⟩ (mX8_wrapPart l dC dI cyI cyO m0 m1 m2 m3 m4 m5 m6 state history recorded slots isSaved pad padLength opened pos letter first second y2 5 _ q3 e4) (cwV 2 hts (gV ml_X8_81 im_X8_wrapPart se_X8_wrapPart in_X8 co_X8_wrapPart) rfl rfl rfl (by decide +kernel) ⟨Nat.le_of_ble_eq_true rfl, Nat.le_of_ble_eq_true rfl⟩) (cP_V hK hP hD [0, 1, 2, 3, 4, 5, 6] rfl rfl 0 rfl rfl) rfl rfl hl.1 rfl (lv_room (Nat.le_of_ble_eq_true rfl)) dX8_outside_18 ⟨Nat.zero_le _, Nat.zero_le _⟩) hP hD hS hA [0, 1, 2, 3, 4, 5, 6] rfl (fun H locs hP hS => ?_)
        obtain ⟨q5, e6, h⟩ := ob h
        refine fr_ir (M := ([] : va_W)) (va_runS (As := [.int q3]) (rest := [.int y1]) ⟨hx, hb, hml, hown, hts⟩ (mX8_bits l dC dI cyI cyO q3 _ q5 e6) (va_cwS 1 hts (gS ml_X8_58 st_X8_bits in_X8 co_X8_bits) rfl rfl rfl (by decide +kernel) ⟨Nat.le_of_ble_eq_true rfl, Nat.le_of_ble_eq_true rfl⟩) (cP_S hK hP hD [] rfl rfl) rfl rfl hl.1 rfl (lv_room (Nat.le_of_ble_eq_true rfl)) dX8_outside_21 ⟨Nat.zero_le _, Nat.zero_le _⟩) hP hD hS hA [] rfl (fun H locs hP hS => ?_)
        refine lv_iadd hx hb dX8_outside_24 ?_
        refine lv_istore_n (lv' := [(1, .int (y1 + q5)), (0, .ref m0), (2, .int y2)]) hx hb dX8_outside_25 rfl hl (by decide) rfl (fun ls hl => ?_)
        refine lv_iinc (v := (y2 + 1)) (lv' := [(2, .int (y2 + 1)), (1, .int (y1 + q5)), (0, .ref m0)]) hx hb dX8_outside_26 hl (k := 2) rfl rfl (by decide) rfl (fun ls hl => ?_)
        refine lv_goto (tgt := 4) hx hb dX8_outside_29 (by decide) ?_
        exact ih state (y1 + q5) (y2 + 1) h _ _ hP hD hS ls (lv_sub hl [2, 1, 0] rfl)
  have hl := lv_entry ([.ref m0]) (n := 3) (Nat.le_of_ble_eq_true rfl)
  rw [lg_entry_eq]
  generalize (lg_sl ([.ref m0]) ++ List.replicate (3 - (lg_sl ([.ref m0])).length) Slot.unset).toArray = ls at hl ⊢
  have hl : lv_has ls 3 [(0, .ref m0)] := hl
  unfold fX8_outside at h
  refine lv_iconst (v := 0) hx hb dX8_outside_0 (by decide) ?_
  refine lv_istore_n (lv' := [(1, .int 0), (0, .ref m0)]) hx hb dX8_outside_1 rfl hl (by decide) rfl (fun ls hl => ?_)
  refine lv_iconst (v := 0) hx hb dX8_outside_2 (by decide) ?_
  refine lv_istore_n (lv' := [(2, .int 0), (1, .int 0), (0, .ref m0)]) hx hb dX8_outside_3 rfl hl (by decide) rfl (fun ls hl => ?_)
  exact kB4 6000 state 0 0 h _ _ hP hD hS ls (lv_sub hl [2, 1, 0] rfl)
