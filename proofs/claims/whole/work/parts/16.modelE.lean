/-! the reference -/
noncomputable def fX8_takeNumber_b34 (k18 : (Nat → Int32) → Int32 → Int32 → Int32 → Int32 → Option (Int32 × Int32)) (pad : Nat → Int32) (padLength : Int32) (pos : Int32) (z0 : Int32) : Option (Int32 × Int32) :=
  ((fX8_character pad padLength pos).bind fun q1 => (if ((z0 + q1) - 48) ≤ 0 then k18 pad padLength (pos + 1) ((z0 + q1) - 48) 0 else ((fX8_character pad padLength (pos + 1)).bind fun q4 => (if (fX8_within q4 48 57) = 0 then k18 pad padLength (pos + 1) ((z0 + q1) - 48) 0 else ((fX8_character pad padLength (pos + 1)).bind fun q7 => (if 119 < (((10 * ((z0 + q1) - 48)) + q7) - 48) then k18 pad padLength (pos + 1) ((z0 + q1) - 48) 0 else k18 pad padLength (pos + 1) ((z0 + q1) - 48) 1))))))

noncomputable def fX8_takeNumber_b18 : Nat → (Nat → Int32) → Int32 → Int32 → Int32 → Int32 → Option (Int32 × Int32)
  | 0, _, _, _, _, _ => none
  | fuel + 1, pad, padLength, pos, y1, y2 =>
  (if y2 = 0 then (some (y1, pos)) else (if 0 ≤ y1 then fX8_takeNumber_b34 (fX8_takeNumber_b18 fuel) pad padLength pos (10 * y1) else fX8_takeNumber_b34 (fX8_takeNumber_b18 fuel) pad padLength pos 0))

noncomputable def fX8_takeNumber (pad : Nat → Int32) (padLength : Int32) (pos : Int32) : Option (Int32 × Int32) :=
  ((fX8_character pad padLength pos).bind fun q12 => fX8_takeNumber_b18 6000 pad padLength pos (-1) (fX8_within q12 48 57))
set_option maxHeartbeats 1000000 in
set_option maxRecDepth 100000 in
theorem mX8_takeNumber (l : Launch) (dC : Nat → ClassId) (dI : Nat → Nat → Nat) (cyI cyO : ClassId) (m0 m1 m2 m3 m4 m5 m6 : Nat) (state : Nat → Int32) (history : Nat → Int32) (recorded : Int32) (slots : Nat → Int32) (isSaved : Nat → Int32) (pad : Nat → Int32) (padLength : Int32) (opened : Nat → Int32) (pos : Int32) (letter : Int32) (first : Int32) (second : Int32)  (sz : Nat) (res : Int32 × Int32) (h : fX8_takeNumber pad padLength pos = some res) : Met l yX8_takeNumber (wsG yX8_takeNumber cX8_takeNumber 3 (some .int)) ({ frames := 1, cells := 0, slots := 0, locals := 22 }) (cP dC dI cyI cyO sz [.ref m0] (modelW cyI m0 m1 m2 m3 m4 m5 m6 state history recorded slots isSaved pad padLength opened pos letter first second)) (cI dC dI res.1 (modelW cyI m0 m1 m2 m3 m4 m5 m6 state history recorded slots isSaved pad padLength opened res.2 letter first second) (va_A (modelW cyI m0 m1 m2 m3 m4 m5 m6 state history recorded slots isSaved pad padLength opened pos letter first second) sz)) 0 0 (va_A (modelW cyI m0 m1 m2 m3 m4 m5 m6 state history recorded slots isSaved pad padLength opened pos letter first second) sz) := by
  refine Met.ofW (cc := cX8_takeNumber) (maxL := 3) (ret := (some .int)) (by decide) rfl ?_
  intro p e s m args below meth c s₁ B hml hv
  obtain ⟨rfl, hsz, hP, hK, hD0⟩ := hv
  have hx := B.exec
  have hb := B.bytes
  have hr := B.returns
  have hts := atoms_spec (ws := wsG yX8_takeNumber cX8_takeNumber 3 (some .int)) B.pre
  have hown : s.vm.findClass RX8 = some m.cls := findClass_of_methodNamed B.named
  have hlocks := B.notSynchronized
  subst hsz
  have hD := hD0.self (sz := s.heap.size)
  generalize hAe : va_A (modelW cyI m0 m1 m2 m3 m4 m5 m6 state history recorded slots isSaved pad padLength opened pos letter first second) s.heap.size = A at hD ⊢
  have hA : ∀ q : Nat, s.heap.size ≤ q → A q := fun q h => by rw [← hAe]; exact Or.inr h
  have hS : va_S A s.heap s.heap [] := va_S.rf
  have kB34 : ∀ (k18 : (Nat → Int32) → Int32 → Int32 → Int32 → Int32 → Option (Int32 × Int32)) (hk18 : ∀ (pad : Nat → Int32) (padLength : Int32) (pos : Int32) (y1 : Int32) (y2 : Int32), k18 pad padLength pos y1 y2 = some res → ∀ (H : Heap) (locs : List Loc), va_P (dC, dI) vwCl (modelW cyI m0 m1 m2 m3 m4 m5 m6 state history recorded slots isSaved pad padLength opened pos letter first second) H → va_D A (modelW cyI m0 m1 m2 m3 m4 m5 m6 state history recorded slots isSaved pad padLength opened pos letter first second) → va_S A s.heap H locs → ∀ ls : Array Slot, lv_has ls 3 [(0, .ref m0), (1, .int y1), (2, .int y2)] → W p l e (headSpec (wsG yX8_takeNumber cX8_takeNumber 3 (some .int)) ({ frames := 1, cells := 0, slots := 0, locals := 22 })).room s m (([.ref m0] : List Value).toArray) below meth c H locs 0 0 (MQ below (cI dC dI res.1 (modelW cyI m0 m1 m2 m3 m4 m5 m6 state history recorded slots isSaved pad padLength opened res.2 letter first second) A) ([.ref m0] : List Value).toArray s 0 0 A) (F0 m 18 ls [])) (pad : Nat → Int32) (padLength : Int32) (pos : Int32) (z0 : Int32), fX8_takeNumber_b34 k18 pad padLength pos z0 = some res → ∀ (H : Heap) (locs : List Loc), va_P (dC, dI) vwCl (modelW cyI m0 m1 m2 m3 m4 m5 m6 state history recorded slots isSaved pad padLength opened pos letter first second) H → va_D A (modelW cyI m0 m1 m2 m3 m4 m5 m6 state history recorded slots isSaved pad padLength opened pos letter first second) → va_S A s.heap H locs → ∀ ls : Array Slot, lv_has ls 3 [(0, .ref m0)] → W p l e (headSpec (wsG yX8_takeNumber cX8_takeNumber 3 (some .int)) ({ frames := 1, cells := 0, slots := 0, locals := 22 })).room s m (([.ref m0] : List Value).toArray) below meth c H locs 0 0 (MQ below (cI dC dI res.1 (modelW cyI m0 m1 m2 m3 m4 m5 m6 state history recorded slots isSaved pad padLength opened res.2 letter first second) A) ([.ref m0] : List Value).toArray s 0 0 A) (F0 m 34 ls [.int z0]) := by
    intro k18 hk18 pad padLength pos z0 h H locs hP hD hS ls hl
    unfold fX8_takeNumber_b34 at h
    refine lv_aload_n hx hb dX8_takeNumber_34 rfl (lv_at hl 0 rfl) ?_
    refine lv_aload_n hx hb dX8_takeNumber_35 rfl (lv_at hl 0 rfl) ?_
    refine va_get (D := (dC, dI)) (ci := 8) (v := .int pos) (C := RX8) (T := TX8) (N := 12) hx hb hts (fun w h9 => gb_mem (lay_X8 w h9)) hown hK.1 hP 0 rfl rfl 8 (by decide) (hts _ (gb_mem fl_X8_215)) (fun _ h9 => h9) rfl dX8_takeNumber_36 ?_
    obtain ⟨q1, e2, h⟩ := ob h
    refine fr_ir (M := (modelW cyI m0 m1 m2 m3 m4 m5 m6 state history recorded slots isSaved pad padLength opened pos letter first second)) (va_runV (As := [.int pos]) (rest := [.int z0]) ⟨hx, hb, hml, hown, hts⟩ (mX8_character l dC dI cyI cyO m0 m1 m2 m3 m4 m5 m6 state history recorded slots isSaved pad padLength opened pos letter first second pos _ q1 e2) (cwV 1 hts (gV ml_X8_218 im_X8_character se_X8_character in_X8 co_X8_character) rfl rfl rfl (by decide +kernel) ⟨Nat.le_of_ble_eq_true rfl, Nat.le_of_ble_eq_true rfl⟩) (cP_V hK hP hD [0, 1, 2, 3, 4, 5, 6] rfl rfl 0 rfl rfl) rfl rfl hl.1 rfl (lv_room (Nat.le_of_ble_eq_true rfl)) dX8_takeNumber_39 ⟨Nat.zero_le _, Nat.zero_le _⟩) hP hD hS hA [0, 1, 2, 3, 4, 5, 6] rfl (fun H locs hP hS => ?_)
    refine lv_iadd hx hb dX8_takeNumber_42 ?_
    refine lv_bipush (v := 48) hx hb dX8_takeNumber_43 (by decide) ?_
    refine lv_isub hx hb dX8_takeNumber_45 ?_
    refine lv_istore_n (lv' := [(1, .int ((z0 + q1) - 48)), (0, .ref m0)]) hx hb dX8_takeNumber_46 rfl hl (by decide) rfl (fun ls hl => ?_)
    refine lv_aload_n hx hb dX8_takeNumber_47 rfl (lv_at hl 1 rfl) ?_
    refine lv_dup hx hb dX8_takeNumber_48 rfl ?_
    refine va_get (D := (dC, dI)) (ci := 8) (v := .int pos) (C := RX8) (T := TX8) (N := 12) hx hb hts (fun w h9 => gb_mem (lay_X8 w h9)) hown hK.1 hP 0 rfl rfl 8 (by decide) (hts _ (gb_mem fl_X8_215)) (fun _ h9 => h9) rfl dX8_takeNumber_49 ?_
    refine lv_iconst (v := 1) hx hb dX8_takeNumber_52 (by decide) ?_
    refine lv_iadd hx hb dX8_takeNumber_53 ?_
    refine va_put (D := (dC, dI)) (ci := 8) (v := .int (pos + 1)) (ty := .int) (C := RX8) (T := TX8) (N := 12) hx hb hts (fun w h9 => gb_mem (lay_X8 w h9)) tyX8 tyX8_ok nmX8 hown hK.1 hP hD hS 0 rfl rfl 8 (by decide) (hts _ (gb_mem fl_X8_215)) (fun _ h9 => h9) rfl (by decide +kernel) rfl rfl (Nat.le_of_ble_eq_true rfl) dX8_takeNumber_54 (fun H locs hP hD hS => ?_)
    have hP : va_P (dC, dI) vwCl (modelW cyI m0 m1 m2 m3 m4 m5 m6 state history recorded slots isSaved pad padLength opened (pos + 1) letter first second) H := hP
    have hD : va_D A (modelW cyI m0 m1 m2 m3 m4 m5 m6 state history recorded slots isSaved pad padLength opened (pos + 1) letter first second) := hD
    refine lv_iload_n hx hb dX8_takeNumber_57 rfl (lv_at hl 0 rfl) ?_
    refine lv_if_le (tgt := 104) hx hb dX8_takeNumber_58 (by decide) (fun c3 => ?_) (fun c3 => ?_)
    · have h := (if_pos c3).symm.trans h
      refine lv_iconst (v := 0) hx hb dX8_takeNumber_104 (by decide) ?_
      refine lv_istore_n (lv' := [(2, .int 0), (1, .int ((z0 + q1) - 48)), (0, .ref m0)]) hx hb dX8_takeNumber_105 rfl hl (by decide) rfl (fun ls hl => ?_)
      refine lv_goto (tgt := 18) hx hb dX8_takeNumber_106 (by decide) ?_
      exact hk18 pad padLength (pos + 1) ((z0 + q1) - 48) 0 h _ _ hP hD hS ls (lv_sub hl [2, 1, 0] rfl)
    · have h := (if_neg c3).symm.trans h
      refine lv_aload_n hx hb dX8_takeNumber_61 rfl (lv_at hl 1 rfl) ?_
      refine lv_aload_n hx hb dX8_takeNumber_62 rfl (lv_at hl 1 rfl) ?_
      refine va_get (D := (dC, dI)) (ci := 8) (v := .int (pos + 1)) (C := RX8) (T := TX8) (N := 12) hx hb hts (fun w h9 => gb_mem (lay_X8 w h9)) hown hK.1 hP 0 rfl rfl 8 (by decide) (hts _ (gb_mem fl_X8_215)) (fun _ h9 => h9) rfl dX8_takeNumber_63 ?_
      obtain ⟨q4, e5, h⟩ := ob h
      refine fr_ir (M := (modelW cyI m0 m1 m2 m3 m4 m5 m6 state history recorded slots isSaved pad padLength opened (pos + 1) letter first second)) (va_runV (As := [.int (pos + 1)]) (rest := []) ⟨hx, hb, hml, hown, hts⟩ (mX8_character l dC dI cyI cyO m0 m1 m2 m3 m4 m5 m6 state history recorded slots isSaved pad padLength opened (pos + 1) letter first second (pos + 1) _ q4 e5) (cwV 1 hts (gV ml_X8_218 im_X8_character se_X8_character in_X8 co_X8_character) rfl rfl rfl (by decide +kernel) ⟨Nat.le_of_ble_eq_true rfl, Nat.le_of_ble_eq_true rfl⟩) (cP_V hK hP hD [0, 1, 2, 3, 4, 5, 6] rfl rfl 0 rfl rfl) rfl rfl hl.1 rfl (lv_room (Nat.le_of_ble_eq_true rfl)) dX8_takeNumber_66 ⟨Nat.zero_le _, Nat.zero_le _⟩) hP hD hS hA [0, 1, 2, 3, 4, 5, 6] rfl (fun H locs hP hS => ?_)
      refine lv_bipush (v := 48) hx hb dX8_takeNumber_69 (by decide) ?_
      refine lv_bipush (v := 57) hx hb dX8_takeNumber_71 (by decide) ?_
      refine fr_ir (M := ([] : va_W)) (va_runS (As := [.int q4, .int 48, .int 57]) (rest := []) ⟨hx, hb, hml, hown, hts⟩ (mX8_within l dC dI cyI cyO q4 48 57 _ (fX8_within q4 48 57) rfl) (va_cwS 3 hts (gS ml_X8_36 st_X8_within in_X8 co_X8_within) rfl rfl rfl (by decide +kernel) ⟨Nat.le_of_ble_eq_true rfl, Nat.le_of_ble_eq_true rfl⟩) (cP_S hK hP hD [] rfl rfl) rfl rfl hl.1 rfl (lv_room (Nat.le_of_ble_eq_true rfl)) dX8_takeNumber_73 ⟨Nat.zero_le _, Nat.zero_le _⟩) hP hD hS hA [] rfl (fun H locs hP hS => ?_)
      refine lv_if_eq (tgt := 104) hx hb dX8_takeNumber_76 (by decide) (fun c6 => ?_) (fun c6 => ?_)
      · have h := (if_pos c6).symm.trans h
        refine lv_iconst (v := 0) hx hb dX8_takeNumber_104 (by decide) ?_
        refine lv_istore_n (lv' := [(2, .int 0), (1, .int ((z0 + q1) - 48)), (0, .ref m0)]) hx hb dX8_takeNumber_105 rfl hl (by decide) rfl (fun ls hl => ?_)
        refine lv_goto (tgt := 18) hx hb dX8_takeNumber_106 (by decide) ?_
        exact hk18 pad padLength (pos + 1) ((z0 + q1) - 48) 0 h _ _ hP hD hS ls (lv_sub hl [2, 1, 0] rfl)
      · have h := (if_neg c6).symm.trans h
        refine lv_bipush (v := 10) hx hb dX8_takeNumber_79 (by decide) ?_
        refine lv_iload_n hx hb dX8_takeNumber_81 rfl (lv_at hl 0 rfl) ?_
        refine lv_imul hx hb dX8_takeNumber_82 ?_
        refine lv_aload_n hx hb dX8_takeNumber_83 rfl (lv_at hl 1 rfl) ?_
        refine lv_aload_n hx hb dX8_takeNumber_84 rfl (lv_at hl 1 rfl) ?_
        refine va_get (D := (dC, dI)) (ci := 8) (v := .int (pos + 1)) (C := RX8) (T := TX8) (N := 12) hx hb hts (fun w h9 => gb_mem (lay_X8 w h9)) hown hK.1 hP 0 rfl rfl 8 (by decide) (hts _ (gb_mem fl_X8_215)) (fun _ h9 => h9) rfl dX8_takeNumber_85 ?_
        obtain ⟨q7, e8, h⟩ := ob h
        refine fr_ir (M := (modelW cyI m0 m1 m2 m3 m4 m5 m6 state history recorded slots isSaved pad padLength opened (pos + 1) letter first second)) (va_runV (As := [.int (pos + 1)]) (rest := [.int (10 * ((z0 + q1) - 48))]) ⟨hx, hb, hml, hown, hts⟩ (mX8_character l dC dI cyI cyO m0 m1 m2 m3 m4 m5 m6 state history recorded slots isSaved pad padLength opened (pos + 1) letter first second (pos + 1) _ q7 e8) (cwV 1 hts (gV ml_X8_218 im_X8_character se_X8_character in_X8 co_X8_character) rfl rfl rfl (by decide +kernel) ⟨Nat.le_of_ble_eq_true rfl, Nat.le_of_ble_eq_true rfl⟩) (cP_V hK hP hD [0, 1, 2, 3, 4, 5, 6] rfl rfl 0 rfl rfl) rfl rfl hl.1 rfl (lv_room (Nat.le_of_ble_eq_true rfl)) dX8_takeNumber_88 ⟨Nat.zero_le _, Nat.zero_le _⟩) hP hD hS hA [0, 1, 2, 3, 4, 5, 6] rfl (fun H locs hP hS => ?_)
        refine lv_iadd hx hb dX8_takeNumber_91 ?_
        refine lv_bipush (v := 48) hx hb dX8_takeNumber_92 (by decide) ?_
        refine lv_isub hx hb dX8_takeNumber_94 ?_
        refine lv_bipush (v := 119) hx hb dX8_takeNumber_95 (by decide) ?_
        refine lv_icmp_gt (tgt := 104) hx hb dX8_takeNumber_97 (by decide) (fun c9 => ?_) (fun c9 => ?_)
        · have h := (if_pos c9).symm.trans h
          refine lv_iconst (v := 0) hx hb dX8_takeNumber_104 (by decide) ?_
          refine lv_istore_n (lv' := [(2, .int 0), (1, .int ((z0 + q1) - 48)), (0, .ref m0)]) hx hb dX8_takeNumber_105 rfl hl (by decide) rfl (fun ls hl => ?_)
          refine lv_goto (tgt := 18) hx hb dX8_takeNumber_106 (by decide) ?_
          exact hk18 pad padLength (pos + 1) ((z0 + q1) - 48) 0 h _ _ hP hD hS ls (lv_sub hl [2, 1, 0] rfl)
        · have h := (if_neg c9).symm.trans h
          refine lv_iconst (v := 1) hx hb dX8_takeNumber_100 (by decide) ?_
          refine lv_goto (tgt := 105) hx hb dX8_takeNumber_101 (by decide) ?_
          refine lv_istore_n (lv' := [(2, .int 1), (1, .int ((z0 + q1) - 48)), (0, .ref m0)]) hx hb dX8_takeNumber_105 rfl hl (by decide) rfl (fun ls hl => ?_)
          refine lv_goto (tgt := 18) hx hb dX8_takeNumber_106 (by decide) ?_
          exact hk18 pad padLength (pos + 1) ((z0 + q1) - 48) 1 h _ _ hP hD hS ls (lv_sub hl [2, 1, 0] rfl)
  have kB18 : ∀ (fuel : Nat) (pad : Nat → Int32) (padLength : Int32) (pos : Int32) (y1 : Int32) (y2 : Int32), fX8_takeNumber_b18 fuel pad padLength pos y1 y2 = some res → ∀ (H : Heap) (locs : List Loc), va_P (dC, dI) vwCl (modelW cyI m0 m1 m2 m3 m4 m5 m6 state history recorded slots isSaved pad padLength opened pos letter first second) H → va_D A (modelW cyI m0 m1 m2 m3 m4 m5 m6 state history recorded slots isSaved pad padLength opened pos letter first second) → va_S A s.heap H locs → ∀ ls : Array Slot, lv_has ls 3 [(0, .ref m0), (1, .int y1), (2, .int y2)] → W p l e (headSpec (wsG yX8_takeNumber cX8_takeNumber 3 (some .int)) ({ frames := 1, cells := 0, slots := 0, locals := 22 })).room s m (([.ref m0] : List Value).toArray) below meth c H locs 0 0 (MQ below (cI dC dI res.1 (modelW cyI m0 m1 m2 m3 m4 m5 m6 state history recorded slots isSaved pad padLength opened res.2 letter first second) A) ([.ref m0] : List Value).toArray s 0 0 A) (F0 m 18 ls []) := by
    intro fuel
    induction fuel with
    | zero => intro pad padLength pos y1 y2 h; rw [fX8_takeNumber_b18] at h; cases h
    | succ fuel ih =>
      intro pad padLength pos y1 y2 h H locs hP hD hS ls hl
      rw [fX8_takeNumber_b18] at h
      refine lv_iload_n hx hb dX8_takeNumber_18 rfl (lv_at hl 2 rfl) ?_
      refine lv_if_eq (tgt := 109) hx hb dX8_takeNumber_19 (by decide) (fun c10 => ?_) (fun c10 => ?_)
      · have h := (if_pos c10).symm.trans h
        refine lv_iload_n hx hb dX8_takeNumber_109 rfl (lv_at hl 1 rfl) ?_
        obtain rfl := Option.some.inj h
        exact e_i hx hb hr hlocks hP hS dX8_takeNumber_110
      · have h := (if_neg c10).symm.trans h
        refine lv_iload_n hx hb dX8_takeNumber_22 rfl (lv_at hl 1 rfl) ?_
        refine lv_if_ge (tgt := 30) hx hb dX8_takeNumber_23 (by decide) (fun c11 => ?_) (fun c11 => ?_)
        · have h := (if_pos c11).symm.trans h
          refine lv_bipush (v := 10) hx hb dX8_takeNumber_30 (by decide) ?_
          refine lv_iload_n hx hb dX8_takeNumber_32 rfl (lv_at hl 1 rfl) ?_
          refine lv_imul hx hb dX8_takeNumber_33 ?_
          exact kB34 (fX8_takeNumber_b18 fuel) ih pad padLength pos (10 * y1) h _ _ hP hD hS ls (lv_sub hl [0] rfl)
        · have h := (if_neg c11).symm.trans h
          refine lv_iconst (v := 0) hx hb dX8_takeNumber_26 (by decide) ?_
          refine lv_goto (tgt := 34) hx hb dX8_takeNumber_27 (by decide) ?_
          exact kB34 (fX8_takeNumber_b18 fuel) ih pad padLength pos 0 h _ _ hP hD hS ls (lv_sub hl [0] rfl)
  have hl := lv_entry ([.ref m0]) (n := 3) (Nat.le_of_ble_eq_true rfl)
  rw [lg_entry_eq]
  generalize (lg_sl ([.ref m0]) ++ List.replicate (3 - (lg_sl ([.ref m0])).length) Slot.unset).toArray = ls at hl ⊢
  have hl : lv_has ls 3 [(0, .ref m0)] := hl
  unfold fX8_takeNumber at h
  refine lv_iconst (v := (-1)) hx hb dX8_takeNumber_0 (by decide) ?_
  refine lv_istore_n (lv' := [(1, .int (-1)), (0, .ref m0)]) hx hb dX8_takeNumber_1 rfl hl (by decide) rfl (fun ls hl => ?_)
  refine lv_aload_n hx hb dX8_takeNumber_2 rfl (lv_at hl 1 rfl) ?_
  refine lv_aload_n hx hb dX8_takeNumber_3 rfl (lv_at hl 1 rfl) ?_
  refine va_get (D := (dC, dI)) (ci := 8) (v := .int pos) (C := RX8) (T := TX8) (N := 12) hx hb hts (fun w h9 => gb_mem (lay_X8 w h9)) hown hK.1 hP 0 rfl rfl 8 (by decide) (hts _ (gb_mem fl_X8_215)) (fun _ h9 => h9) rfl dX8_takeNumber_4 ?_
  obtain ⟨q12, e13, h⟩ := ob h
  refine fr_ir (M := (modelW cyI m0 m1 m2 m3 m4 m5 m6 state history recorded slots isSaved pad padLength opened pos letter first second)) (va_runV (As := [.int pos]) (rest := []) ⟨hx, hb, hml, hown, hts⟩ (mX8_character l dC dI cyI cyO m0 m1 m2 m3 m4 m5 m6 state history recorded slots isSaved pad padLength opened pos letter first second pos _ q12 e13) (cwV 1 hts (gV ml_X8_218 im_X8_character se_X8_character in_X8 co_X8_character) rfl rfl rfl (by decide +kernel) ⟨Nat.le_of_ble_eq_true rfl, Nat.le_of_ble_eq_true rfl⟩) (cP_V hK hP hD [0, 1, 2, 3, 4, 5, 6] rfl rfl 0 rfl rfl) rfl rfl hl.1 rfl (lv_room (Nat.le_of_ble_eq_true rfl)) dX8_takeNumber_7 ⟨Nat.zero_le _, Nat.zero_le _⟩) hP hD hS hA [0, 1, 2, 3, 4, 5, 6] rfl (fun H locs hP hS => ?_)
  refine lv_bipush (v := 48) hx hb dX8_takeNumber_10 (by decide) ?_
  refine lv_bipush (v := 57) hx hb dX8_takeNumber_12 (by decide) ?_
  refine fr_ir (M := ([] : va_W)) (va_runS (As := [.int q12, .int 48, .int 57]) (rest := []) ⟨hx, hb, hml, hown, hts⟩ (mX8_within l dC dI cyI cyO q12 48 57 _ (fX8_within q12 48 57) rfl) (va_cwS 3 hts (gS ml_X8_36 st_X8_within in_X8 co_X8_within) rfl rfl rfl (by decide +kernel) ⟨Nat.le_of_ble_eq_true rfl, Nat.le_of_ble_eq_true rfl⟩) (cP_S hK hP hD [] rfl rfl) rfl rfl hl.1 rfl (lv_room (Nat.le_of_ble_eq_true rfl)) dX8_takeNumber_14 ⟨Nat.zero_le _, Nat.zero_le _⟩) hP hD hS hA [] rfl (fun H locs hP hS => ?_)
  refine lv_istore_n (lv' := [(2, .int (fX8_within q12 48 57)), (1, .int (-1)), (0, .ref m0)]) hx hb dX8_takeNumber_17 rfl hl (by decide) rfl (fun ls hl => ?_)
  exact kB18 6000 pad padLength pos (-1) (fX8_within q12 48 57) h _ _ hP hD hS ls (lv_sub hl [2, 1, 0] rfl)

noncomputable def fX8_isOrder (x0 : Int32) : Int32 :=
  (if x0 = 107 then (1) else (if x0 = 98 then (1) else (if x0 = 114 then (1) else (if x0 = 120 then (1) else (if x0 = 121 then (1) else (if x0 = 99 then (1) else (0)))))))
set_option maxHeartbeats 1000000 in
set_option maxRecDepth 100000 in
theorem mX8_isOrder (l : Launch) (dC : Nat → ClassId) (dI : Nat → Nat → Nat) (cyI cyO : ClassId)   (x0 : Int32) (sz : Nat) (res : Int32) (h : fX8_isOrder x0 = res) : Met l yX8_isOrder (wsG yX8_isOrder cX8_isOrder 1 (some .boolean)) ({ frames := 0, cells := 0, slots := 0, locals := 0 }) (cP dC dI cyI cyO sz [.int x0] ([] : va_W)) (cI dC dI res ([] : va_W) (va_A ([] : va_W) sz)) 0 0 (va_A ([] : va_W) sz) := by
  refine Met.ofW (cc := cX8_isOrder) (maxL := 1) (ret := (some .boolean)) (by decide) rfl ?_
  intro p e s m args below meth c s₁ B hml hv
  obtain ⟨rfl, hsz, hP, hK, hD0⟩ := hv
  have hx := B.exec
  have hb := B.bytes
  have hr := B.returns
  have hts := atoms_spec (ws := wsG yX8_isOrder cX8_isOrder 1 (some .boolean)) B.pre
  have hown : s.vm.findClass RX8 = some m.cls := findClass_of_methodNamed B.named
  have hlocks := B.notSynchronized
  subst hsz
  have hD := hD0.self (sz := s.heap.size)
  generalize hAe : va_A ([] : va_W) s.heap.size = A at hD ⊢
  have hA : ∀ q : Nat, s.heap.size ≤ q → A q := fun q h => by rw [← hAe]; exact Or.inr h
  have hS : va_S A s.heap s.heap [] := va_S.rf
  have hl := lv_entry ([.int x0]) (n := 1) (Nat.le_of_ble_eq_true rfl)
  rw [lg_entry_eq]
  generalize (lg_sl ([.int x0]) ++ List.replicate (1 - (lg_sl ([.int x0])).length) Slot.unset).toArray = ls at hl ⊢
  have hl : lv_has ls 1 [(0, .int x0)] := hl
  unfold fX8_isOrder at h
  refine lv_iload_n hx hb dX8_isOrder_0 rfl (lv_at hl 0 rfl) ?_
  refine lv_bipush (v := 107) hx hb dX8_isOrder_1 (by decide) ?_
  refine lv_icmp_eq (tgt := 36) hx hb dX8_isOrder_3 (by decide) (fun c1 => ?_) (fun c1 => ?_)
  · have h := (if_pos c1).symm.trans h
    refine lv_iconst (v := 1) hx hb dX8_isOrder_36 (by decide) ?_
    refine lv_goto (tgt := 41) hx hb dX8_isOrder_37 (by decide) ?_
    obtain rfl := h
    exact e_z (v := 1) hx hb hr hlocks rfl hP hS dX8_isOrder_41
  · have h := (if_neg c1).symm.trans h
    refine lv_iload_n hx hb dX8_isOrder_6 rfl (lv_at hl 0 rfl) ?_
    refine lv_bipush (v := 98) hx hb dX8_isOrder_7 (by decide) ?_
    refine lv_icmp_eq (tgt := 36) hx hb dX8_isOrder_9 (by decide) (fun c2 => ?_) (fun c2 => ?_)
    · have h := (if_pos c2).symm.trans h
      refine lv_iconst (v := 1) hx hb dX8_isOrder_36 (by decide) ?_
      refine lv_goto (tgt := 41) hx hb dX8_isOrder_37 (by decide) ?_
      obtain rfl := h
      exact e_z (v := 1) hx hb hr hlocks rfl hP hS dX8_isOrder_41
    · have h := (if_neg c2).symm.trans h
      refine lv_iload_n hx hb dX8_isOrder_12 rfl (lv_at hl 0 rfl) ?_
      refine lv_bipush (v := 114) hx hb dX8_isOrder_13 (by decide) ?_
      refine lv_icmp_eq (tgt := 36) hx hb dX8_isOrder_15 (by decide) (fun c3 => ?_) (fun c3 => ?_)
      · have h := (if_pos c3).symm.trans h
        refine lv_iconst (v := 1) hx hb dX8_isOrder_36 (by decide) ?_
        refine lv_goto (tgt := 41) hx hb dX8_isOrder_37 (by decide) ?_
        obtain rfl := h
        exact e_z (v := 1) hx hb hr hlocks rfl hP hS dX8_isOrder_41
      · have h := (if_neg c3).symm.trans h
        refine lv_iload_n hx hb dX8_isOrder_18 rfl (lv_at hl 0 rfl) ?_
        refine lv_bipush (v := 120) hx hb dX8_isOrder_19 (by decide) ?_
        refine lv_icmp_eq (tgt := 36) hx hb dX8_isOrder_21 (by decide) (fun c4 => ?_) (fun c4 => ?_)
        · have h := (if_pos c4).symm.trans h
          refine lv_iconst (v := 1) hx hb dX8_isOrder_36 (by decide) ?_
          refine lv_goto (tgt := 41) hx hb dX8_isOrder_37 (by decide) ?_
          obtain rfl := h
          exact e_z (v := 1) hx hb hr hlocks rfl hP hS dX8_isOrder_41
        · have h := (if_neg c4).symm.trans h
          refine lv_iload_n hx hb dX8_isOrder_24 rfl (lv_at hl 0 rfl) ?_
          refine lv_bipush (v := 121) hx hb dX8_isOrder_25 (by decide) ?_
          refine lv_icmp_eq (tgt := 36) hx hb dX8_isOrder_27 (by decide) (fun c5 => ?_) (fun c5 => ?_)
          · have h := (if_pos c5).symm.trans h
            refine lv_iconst (v := 1) hx hb dX8_isOrder_36 (by decide) ?_
            refine lv_goto (tgt := 41) hx hb dX8_isOrder_37 (by decide) ?_
            obtain rfl := h
            exact e_z (v := 1) hx hb hr hlocks rfl hP hS dX8_isOrder_41
          · have h := (if_neg c5).symm.trans h
            refine lv_iload_n hx hb dX8_isOrder_30 rfl (lv_at hl 0 rfl) ?_
            refine lv_bipush (v := 99) hx hb dX8_isOrder_31 (by decide) ?_
            refine lv_icmp_ne (tgt := 40) hx hb dX8_isOrder_33 (by decide) (fun c6 => ?_) (fun c6 => ?_)
            · have h := (if_neg c6).symm.trans h
              refine lv_iconst (v := 0) hx hb dX8_isOrder_40 (by decide) ?_
              obtain rfl := h
              exact e_z (v := 0) hx hb hr hlocks rfl hP hS dX8_isOrder_41
            · have h := (if_pos c6).symm.trans h
              refine lv_iconst (v := 1) hx hb dX8_isOrder_36 (by decide) ?_
              refine lv_goto (tgt := 41) hx hb dX8_isOrder_37 (by decide) ?_
              obtain rfl := h
              exact e_z (v := 1) hx hb hr hlocks rfl hP hS dX8_isOrder_41
theorem nb_X8_isOrder  (x0 : Int32) : narrow .boolean (.int (fX8_isOrder x0)) = .int (fX8_isOrder x0) := by
  unfold fX8_isOrder
  repeat (first | rfl | split)
noncomputable def fX8_readsOrder_b60 (pad : Nat → Int32) (padLength : Int32) (pos : Int32) (letter : Int32) (first : Int32) (second : Int32) : Option (Int32 × Int32 × Int32 × Int32 × Int32) :=
  ((fX8_takeNumber pad padLength pos).bind fun q1 => (if q1.1 < 0 then (if q1.1 < 0 then (some (0, q1.2, letter, q1.1, second)) else (some (1, q1.2, letter, q1.1, second))) else (if letter = 99 then ((fX8_takes pad padLength q1.2 64).bind fun q6 => (if q6.1 = 0 then (some (0, q6.2, letter, q1.1, second)) else ((fX8_character pad padLength q6.2).bind fun q9 => (if (fX8_within q9 48 50) = 0 then (some (0, q6.2, letter, q1.1, second)) else ((fX8_character pad padLength q6.2).bind fun q12 => (some (1, (q6.2 + 1), letter, q1.1, (q12 - 48)))))))) else (if q1.1 < 0 then (some (0, q1.2, letter, q1.1, second)) else (some (1, q1.2, letter, q1.1, second))))))

noncomputable def fX8_readsOrder (pad : Nat → Int32) (padLength : Int32) (pos : Int32) (letter : Int32) (first : Int32) (second : Int32) : Option (Int32 × Int32 × Int32 × Int32 × Int32) :=
  ((fX8_character pad padLength pos).bind fun q15 => (if (fX8_isOrder q15) = 0 then (some (0, pos, q15, first, second)) else (if q15 = 107 then ((fX8_takes pad padLength (pos + 1) 45).bind fun q19 => (if q19.1 = 0 then fX8_readsOrder_b60 pad padLength q19.2 q15 first second else (some (1, q19.2, q15, (-6), second)))) else fX8_readsOrder_b60 pad padLength (pos + 1) q15 first second)))
set_option maxHeartbeats 1000000 in
set_option maxRecDepth 100000 in
theorem mX8_readsOrder (l : Launch) (dC : Nat → ClassId) (dI : Nat → Nat → Nat) (cyI cyO : ClassId) (m0 m1 m2 m3 m4 m5 m6 : Nat) (state : Nat → Int32) (history : Nat → Int32) (recorded : Int32) (slots : Nat → Int32) (isSaved : Nat → Int32) (pad : Nat → Int32) (padLength : Int32) (opened : Nat → Int32) (pos : Int32) (letter : Int32) (first : Int32) (second : Int32)  (sz : Nat) (res : Int32 × Int32 × Int32 × Int32 × Int32) (h : fX8_readsOrder pad padLength pos letter first second = some res) : Met l yX8_readsOrder (wsG yX8_readsOrder cX8_readsOrder 1 (some .boolean)) ({ frames := 2, cells := 0, slots := 0, locals := 44 }) (cP dC dI cyI cyO sz [.ref m0] (modelW cyI m0 m1 m2 m3 m4 m5 m6 state history recorded slots isSaved pad padLength opened pos letter first second)) (cI dC dI res.1 (modelW cyI m0 m1 m2 m3 m4 m5 m6 state history recorded slots isSaved pad padLength opened res.2.1 res.2.2.1 res.2.2.2.1 res.2.2.2.2) (va_A (modelW cyI m0 m1 m2 m3 m4 m5 m6 state history recorded slots isSaved pad padLength opened pos letter first second) sz)) 0 0 (va_A (modelW cyI m0 m1 m2 m3 m4 m5 m6 state history recorded slots isSaved pad padLength opened pos letter first second) sz) := by
  refine Met.ofW (cc := cX8_readsOrder) (maxL := 1) (ret := (some .boolean)) (by decide) rfl ?_
  intro p e s m args below meth c s₁ B hml hv
  obtain ⟨rfl, hsz, hP, hK, hD0⟩ := hv
  have hx := B.exec
  have hb := B.bytes
  have hr := B.returns
  have hts := atoms_spec (ws := wsG yX8_readsOrder cX8_readsOrder 1 (some .boolean)) B.pre
  have hown : s.vm.findClass RX8 = some m.cls := findClass_of_methodNamed B.named
  have hlocks := B.notSynchronized
  subst hsz
  have hD := hD0.self (sz := s.heap.size)
  generalize hAe : va_A (modelW cyI m0 m1 m2 m3 m4 m5 m6 state history recorded slots isSaved pad padLength opened pos letter first second) s.heap.size = A at hD ⊢
  have hA : ∀ q : Nat, s.heap.size ≤ q → A q := fun q h => by rw [← hAe]; exact Or.inr h
  have hS : va_S A s.heap s.heap [] := va_S.rf
  have kB60 : ∀ (pad : Nat → Int32) (padLength : Int32) (pos : Int32) (letter : Int32) (first : Int32) (second : Int32), fX8_readsOrder_b60 pad padLength pos letter first second = some res → ∀ (H : Heap) (locs : List Loc), va_P (dC, dI) vwCl (modelW cyI m0 m1 m2 m3 m4 m5 m6 state history recorded slots isSaved pad padLength opened pos letter first second) H → va_D A (modelW cyI m0 m1 m2 m3 m4 m5 m6 state history recorded slots isSaved pad padLength opened pos letter first second) → va_S A s.heap H locs → ∀ ls : Array Slot, lv_has ls 1 [(0, .ref m0)] → W p l e (headSpec (wsG yX8_readsOrder cX8_readsOrder 1 (some .boolean)) ({ frames := 2, cells := 0, slots := 0, locals := 44 })).room s m (([.ref m0] : List Value).toArray) below meth c H locs 0 0 (MQ below (cI dC dI res.1 (modelW cyI m0 m1 m2 m3 m4 m5 m6 state history recorded slots isSaved pad padLength opened res.2.1 res.2.2.1 res.2.2.2.1 res.2.2.2.2) A) ([.ref m0] : List Value).toArray s 0 0 A) (F0 m 60 ls []) := by
    intro pad padLength pos letter first second h H locs hP hD hS ls hl
    unfold fX8_readsOrder_b60 at h
    refine lv_aload_n hx hb dX8_readsOrder_60 rfl (lv_at hl 0 rfl) ?_
    refine lv_aload_n hx hb dX8_readsOrder_61 rfl (lv_at hl 0 rfl) ?_
    obtain ⟨q1, e2, h⟩ := ob h
    refine fr_i (M := (modelW cyI m0 m1 m2 m3 m4 m5 m6 state history recorded slots isSaved pad padLength opened pos letter first second)) (M' := (modelW cyI m0 m1 m2 m3 m4 m5 m6 state history recorded slots isSaved pad padLength opened q1.2 letter first second)) (L' := (modelW cyI m0 m1 m2 m3 m4 m5 m6 state history recorded slots isSaved pad padLength opened q1.2 letter first second)) (va_runV (As := []) (rest := [.ref m0]) ⟨hx, hb, hml, hown, hts⟩ (mX8_takeNumber l dC dI cyI cyO m0 m1 m2 m3 m4 m5 m6 state history recorded slots isSaved pad padLength opened pos letter first second _ q1 e2) (cwV 0 hts (gV ml_X8_233 im_X8_takeNumber se_X8_takeNumber in_X8 co_X8_takeNumber) rfl rfl rfl (by decide +kernel) ⟨Nat.le_of_ble_eq_true rfl, Nat.le_of_ble_eq_true rfl⟩) (cP_V hK hP hD [0, 1, 2, 3, 4, 5, 6] rfl rfl 0 rfl rfl) rfl rfl hl.1 rfl (lv_room (Nat.le_of_ble_eq_true rfl)) dX8_readsOrder_62 ⟨Nat.zero_le _, Nat.zero_le _⟩) hP hD hS hA [0, 1, 2, 3, 4, 5, 6] rfl [(true, 0), (true, 1), (true, 2), (true, 3), (true, 4), (true, 5), (true, 6)] rfl rfl rfl (fun H locs hP hD hS => ?_)
    refine va_put (D := (dC, dI)) (ci := 8) (v := .int q1.1) (ty := .int) (C := RX8) (T := TX8) (N := 12) hx hb hts (fun w h9 => gb_mem (lay_X8 w h9)) tyX8 tyX8_ok nmX8 hown hK.1 hP hD hS 0 rfl rfl 10 (by decide) (hts _ (gb_mem fl_X8_230)) (fun _ h9 => h9) rfl (by decide +kernel) rfl rfl (Nat.le_of_ble_eq_true rfl) dX8_readsOrder_65 (fun H locs hP hD hS => ?_)
    have hP : va_P (dC, dI) vwCl (modelW cyI m0 m1 m2 m3 m4 m5 m6 state history recorded slots isSaved pad padLength opened q1.2 letter q1.1 second) H := hP
    have hD : va_D A (modelW cyI m0 m1 m2 m3 m4 m5 m6 state history recorded slots isSaved pad padLength opened q1.2 letter q1.1 second) := hD
    refine lv_aload_n hx hb dX8_readsOrder_68 rfl (lv_at hl 0 rfl) ?_
    refine va_get (D := (dC, dI)) (ci := 8) (v := .int q1.1) (C := RX8) (T := TX8) (N := 12) hx hb hts (fun w h9 => gb_mem (lay_X8 w h9)) hown hK.1 hP 0 rfl rfl 10 (by decide) (hts _ (gb_mem fl_X8_230)) (fun _ h9 => h9) rfl dX8_readsOrder_69 ?_
    refine lv_if_lt (tgt := 84) hx hb dX8_readsOrder_72 (by decide) (fun c3 => ?_) (fun c3 => ?_)
    · have h := (if_pos c3).symm.trans h
      refine lv_aload_n hx hb dX8_readsOrder_84 rfl (lv_at hl 0 rfl) ?_
      refine va_get (D := (dC, dI)) (ci := 8) (v := .int q1.1) (C := RX8) (T := TX8) (N := 12) hx hb hts (fun w h9 => gb_mem (lay_X8 w h9)) hown hK.1 hP 0 rfl rfl 10 (by decide) (hts _ (gb_mem fl_X8_230)) (fun _ h9 => h9) rfl dX8_readsOrder_85 ?_
      refine lv_if_lt (tgt := 95) hx hb dX8_readsOrder_88 (by decide) (fun c4 => ?_) (fun c4 => ?_)
      · have h := (if_pos c4).symm.trans h
        refine lv_iconst (v := 0) hx hb dX8_readsOrder_95 (by decide) ?_
        obtain rfl := Option.some.inj h
        exact e_z (v := 0) hx hb hr hlocks rfl hP hS dX8_readsOrder_96
      · have h := (if_neg c4).symm.trans h
        refine lv_iconst (v := 1) hx hb dX8_readsOrder_91 (by decide) ?_
        refine lv_goto (tgt := 96) hx hb dX8_readsOrder_92 (by decide) ?_
        obtain rfl := Option.some.inj h
        exact e_z (v := 1) hx hb hr hlocks rfl hP hS dX8_readsOrder_96
    · have h := (if_neg c3).symm.trans h
      refine lv_aload_n hx hb dX8_readsOrder_75 rfl (lv_at hl 0 rfl) ?_
      refine va_get (D := (dC, dI)) (ci := 8) (v := .int letter) (C := RX8) (T := TX8) (N := 12) hx hb hts (fun w h9 => gb_mem (lay_X8 w h9)) hown hK.1 hP 0 rfl rfl 9 (by decide) (hts _ (gb_mem fl_X8_221)) (fun _ h9 => h9) rfl dX8_readsOrder_76 ?_
      refine lv_bipush (v := 99) hx hb dX8_readsOrder_79 (by decide) ?_
      refine lv_icmp_eq (tgt := 97) hx hb dX8_readsOrder_81 (by decide) (fun c5 => ?_) (fun c5 => ?_)
      · have h := (if_pos c5).symm.trans h
        refine lv_aload_n hx hb dX8_readsOrder_97 rfl (lv_at hl 0 rfl) ?_
        refine lv_bipush (v := 64) hx hb dX8_readsOrder_98 (by decide) ?_
        obtain ⟨q6, e7, h⟩ := ob h
        refine fr_i (M := (modelW cyI m0 m1 m2 m3 m4 m5 m6 state history recorded slots isSaved pad padLength opened q1.2 letter q1.1 second)) (M' := (modelW cyI m0 m1 m2 m3 m4 m5 m6 state history recorded slots isSaved pad padLength opened q6.2 letter q1.1 second)) (L' := (modelW cyI m0 m1 m2 m3 m4 m5 m6 state history recorded slots isSaved pad padLength opened q6.2 letter q1.1 second)) (va_runV (As := [.int 64]) (rest := []) ⟨hx, hb, hml, hown, hts⟩ (mX8_takes l dC dI cyI cyO m0 m1 m2 m3 m4 m5 m6 state history recorded slots isSaved pad padLength opened q1.2 letter q1.1 second 64 _ q6 e7) (cwV 1 hts (gV ml_X8_227 im_X8_takes se_X8_takes in_X8 co_X8_takes) rfl rfl rfl (by decide +kernel) ⟨Nat.le_of_ble_eq_true rfl, Nat.le_of_ble_eq_true rfl⟩) (cP_V hK hP hD [0, 1, 2, 3, 4, 5, 6] rfl rfl 0 rfl rfl) rfl rfl hl.1 rfl (lv_room (Nat.le_of_ble_eq_true rfl)) dX8_readsOrder_100 ⟨Nat.zero_le _, Nat.zero_le _⟩) hP hD hS hA [0, 1, 2, 3, 4, 5, 6] rfl [(true, 0), (true, 1), (true, 2), (true, 3), (true, 4), (true, 5), (true, 6)] rfl rfl rfl (fun H locs hP hD hS => ?_)
        refine lv_if_eq (tgt := 124) hx hb dX8_readsOrder_103 (by decide) (fun c8 => ?_) (fun c8 => ?_)
        · have h := (if_pos c8).symm.trans h
          refine lv_iconst (v := 0) hx hb dX8_readsOrder_124 (by decide) ?_
          obtain rfl := Option.some.inj h
          exact e_z (v := 0) hx hb hr hlocks rfl hP hS dX8_readsOrder_125
        · have h := (if_neg c8).symm.trans h
          refine lv_aload_n hx hb dX8_readsOrder_106 rfl (lv_at hl 0 rfl) ?_
          refine lv_aload_n hx hb dX8_readsOrder_107 rfl (lv_at hl 0 rfl) ?_
          refine va_get (D := (dC, dI)) (ci := 8) (v := .int q6.2) (C := RX8) (T := TX8) (N := 12) hx hb hts (fun w h9 => gb_mem (lay_X8 w h9)) hown hK.1 hP 0 rfl rfl 8 (by decide) (hts _ (gb_mem fl_X8_215)) (fun _ h9 => h9) rfl dX8_readsOrder_108 ?_
          obtain ⟨q9, e10, h⟩ := ob h
          refine fr_ir (M := (modelW cyI m0 m1 m2 m3 m4 m5 m6 state history recorded slots isSaved pad padLength opened q6.2 letter q1.1 second)) (va_runV (As := [.int q6.2]) (rest := []) ⟨hx, hb, hml, hown, hts⟩ (mX8_character l dC dI cyI cyO m0 m1 m2 m3 m4 m5 m6 state history recorded slots isSaved pad padLength opened q6.2 letter q1.1 second q6.2 _ q9 e10) (cwV 1 hts (gV ml_X8_218 im_X8_character se_X8_character in_X8 co_X8_character) rfl rfl rfl (by decide +kernel) ⟨Nat.le_of_ble_eq_true rfl, Nat.le_of_ble_eq_true rfl⟩) (cP_V hK hP hD [0, 1, 2, 3, 4, 5, 6] rfl rfl 0 rfl rfl) rfl rfl hl.1 rfl (lv_room (Nat.le_of_ble_eq_true rfl)) dX8_readsOrder_111 ⟨Nat.zero_le _, Nat.zero_le _⟩) hP hD hS hA [0, 1, 2, 3, 4, 5, 6] rfl (fun H locs hP hS => ?_)
          refine lv_bipush (v := 48) hx hb dX8_readsOrder_114 (by decide) ?_
          refine lv_bipush (v := 50) hx hb dX8_readsOrder_116 (by decide) ?_
          refine fr_ir (M := ([] : va_W)) (va_runS (As := [.int q9, .int 48, .int 50]) (rest := []) ⟨hx, hb, hml, hown, hts⟩ (mX8_within l dC dI cyI cyO q9 48 50 _ (fX8_within q9 48 50) rfl) (va_cwS 3 hts (gS ml_X8_36 st_X8_within in_X8 co_X8_within) rfl rfl rfl (by decide +kernel) ⟨Nat.le_of_ble_eq_true rfl, Nat.le_of_ble_eq_true rfl⟩) (cP_S hK hP hD [] rfl rfl) rfl rfl hl.1 rfl (lv_room (Nat.le_of_ble_eq_true rfl)) dX8_readsOrder_118 ⟨Nat.zero_le _, Nat.zero_le _⟩) hP hD hS hA [] rfl (fun H locs hP hS => ?_)
          refine lv_if_ne (tgt := 126) hx hb dX8_readsOrder_121 (by decide) (fun c11 => ?_) (fun c11 => ?_)
          · have h := (if_neg c11).symm.trans h
            refine lv_aload_n hx hb dX8_readsOrder_126 rfl (lv_at hl 0 rfl) ?_
            refine lv_aload_n hx hb dX8_readsOrder_127 rfl (lv_at hl 0 rfl) ?_
            refine lv_aload_n hx hb dX8_readsOrder_128 rfl (lv_at hl 0 rfl) ?_
            refine va_get (D := (dC, dI)) (ci := 8) (v := .int q6.2) (C := RX8) (T := TX8) (N := 12) hx hb hts (fun w h9 => gb_mem (lay_X8 w h9)) hown hK.1 hP 0 rfl rfl 8 (by decide) (hts _ (gb_mem fl_X8_215)) (fun _ h9 => h9) rfl dX8_readsOrder_129 ?_
            obtain ⟨q12, e13, h⟩ := ob h
            refine fr_ir (M := (modelW cyI m0 m1 m2 m3 m4 m5 m6 state history recorded slots isSaved pad padLength opened q6.2 letter q1.1 second)) (va_runV (As := [.int q6.2]) (rest := [.ref m0]) ⟨hx, hb, hml, hown, hts⟩ (mX8_character l dC dI cyI cyO m0 m1 m2 m3 m4 m5 m6 state history recorded slots isSaved pad padLength opened q6.2 letter q1.1 second q6.2 _ q12 e13) (cwV 1 hts (gV ml_X8_218 im_X8_character se_X8_character in_X8 co_X8_character) rfl rfl rfl (by decide +kernel) ⟨Nat.le_of_ble_eq_true rfl, Nat.le_of_ble_eq_true rfl⟩) (cP_V hK hP hD [0, 1, 2, 3, 4, 5, 6] rfl rfl 0 rfl rfl) rfl rfl hl.1 rfl (lv_room (Nat.le_of_ble_eq_true rfl)) dX8_readsOrder_132 ⟨Nat.zero_le _, Nat.zero_le _⟩) hP hD hS hA [0, 1, 2, 3, 4, 5, 6] rfl (fun H locs hP hS => ?_)
            refine lv_bipush (v := 48) hx hb dX8_readsOrder_135 (by decide) ?_
            refine lv_isub hx hb dX8_readsOrder_137 ?_
            refine va_put (D := (dC, dI)) (ci := 8) (v := .int (q12 - 48)) (ty := .int) (C := RX8) (T := TX8) (N := 12) hx hb hts (fun w h9 => gb_mem (lay_X8 w h9)) tyX8 tyX8_ok nmX8 hown hK.1 hP hD hS 0 rfl rfl 11 (by decide) (hts _ (gb_mem fl_X8_236)) (fun _ h9 => h9) rfl (by decide +kernel) rfl rfl (Nat.le_of_ble_eq_true rfl) dX8_readsOrder_138 (fun H locs hP hD hS => ?_)
            have hP : va_P (dC, dI) vwCl (modelW cyI m0 m1 m2 m3 m4 m5 m6 state history recorded slots isSaved pad padLength opened q6.2 letter q1.1 (q12 - 48)) H := hP
            have hD : va_D A (modelW cyI m0 m1 m2 m3 m4 m5 m6 state history recorded slots isSaved pad padLength opened q6.2 letter q1.1 (q12 - 48)) := hD
            refine lv_aload_n hx hb dX8_readsOrder_141 rfl (lv_at hl 0 rfl) ?_
            refine lv_dup hx hb dX8_readsOrder_142 rfl ?_
            refine va_get (D := (dC, dI)) (ci := 8) (v := .int q6.2) (C := RX8) (T := TX8) (N := 12) hx hb hts (fun w h9 => gb_mem (lay_X8 w h9)) hown hK.1 hP 0 rfl rfl 8 (by decide) (hts _ (gb_mem fl_X8_215)) (fun _ h9 => h9) rfl dX8_readsOrder_143 ?_
            refine lv_iconst (v := 1) hx hb dX8_readsOrder_146 (by decide) ?_
            refine lv_iadd hx hb dX8_readsOrder_147 ?_
            refine va_put (D := (dC, dI)) (ci := 8) (v := .int (q6.2 + 1)) (ty := .int) (C := RX8) (T := TX8) (N := 12) hx hb hts (fun w h9 => gb_mem (lay_X8 w h9)) tyX8 tyX8_ok nmX8 hown hK.1 hP hD hS 0 rfl rfl 8 (by decide) (hts _ (gb_mem fl_X8_215)) (fun _ h9 => h9) rfl (by decide +kernel) rfl rfl (Nat.le_of_ble_eq_true rfl) dX8_readsOrder_148 (fun H locs hP hD hS => ?_)
            have hP : va_P (dC, dI) vwCl (modelW cyI m0 m1 m2 m3 m4 m5 m6 state history recorded slots isSaved pad padLength opened (q6.2 + 1) letter q1.1 (q12 - 48)) H := hP
            have hD : va_D A (modelW cyI m0 m1 m2 m3 m4 m5 m6 state history recorded slots isSaved pad padLength opened (q6.2 + 1) letter q1.1 (q12 - 48)) := hD
            refine lv_iconst (v := 1) hx hb dX8_readsOrder_151 (by decide) ?_
            obtain rfl := Option.some.inj h
            exact e_z (v := 1) hx hb hr hlocks rfl hP hS dX8_readsOrder_152
          · have h := (if_pos c11).symm.trans h
            refine lv_iconst (v := 0) hx hb dX8_readsOrder_124 (by decide) ?_
            obtain rfl := Option.some.inj h
            exact e_z (v := 0) hx hb hr hlocks rfl hP hS dX8_readsOrder_125
      · have h := (if_neg c5).symm.trans h
        refine lv_aload_n hx hb dX8_readsOrder_84 rfl (lv_at hl 0 rfl) ?_
        refine va_get (D := (dC, dI)) (ci := 8) (v := .int q1.1) (C := RX8) (T := TX8) (N := 12) hx hb hts (fun w h9 => gb_mem (lay_X8 w h9)) hown hK.1 hP 0 rfl rfl 10 (by decide) (hts _ (gb_mem fl_X8_230)) (fun _ h9 => h9) rfl dX8_readsOrder_85 ?_
        refine lv_if_lt (tgt := 95) hx hb dX8_readsOrder_88 (by decide) (fun c14 => ?_) (fun c14 => ?_)
        · have h := (if_pos c14).symm.trans h
          refine lv_iconst (v := 0) hx hb dX8_readsOrder_95 (by decide) ?_
          obtain rfl := Option.some.inj h
          exact e_z (v := 0) hx hb hr hlocks rfl hP hS dX8_readsOrder_96
        · have h := (if_neg c14).symm.trans h
          refine lv_iconst (v := 1) hx hb dX8_readsOrder_91 (by decide) ?_
          refine lv_goto (tgt := 96) hx hb dX8_readsOrder_92 (by decide) ?_
          obtain rfl := Option.some.inj h
          exact e_z (v := 1) hx hb hr hlocks rfl hP hS dX8_readsOrder_96
  have hl := lv_entry ([.ref m0]) (n := 1) (Nat.le_of_ble_eq_true rfl)
  rw [lg_entry_eq]
  generalize (lg_sl ([.ref m0]) ++ List.replicate (1 - (lg_sl ([.ref m0])).length) Slot.unset).toArray = ls at hl ⊢
  have hl : lv_has ls 1 [(0, .ref m0)] := hl
  unfold fX8_readsOrder at h
  refine lv_aload_n hx hb dX8_readsOrder_0 rfl (lv_at hl 0 rfl) ?_
  refine lv_aload_n hx hb dX8_readsOrder_1 rfl (lv_at hl 0 rfl) ?_
  refine lv_aload_n hx hb dX8_readsOrder_2 rfl (lv_at hl 0 rfl) ?_
  refine va_get (D := (dC, dI)) (ci := 8) (v := .int pos) (C := RX8) (T := TX8) (N := 12) hx hb hts (fun w h9 => gb_mem (lay_X8 w h9)) hown hK.1 hP 0 rfl rfl 8 (by decide) (hts _ (gb_mem fl_X8_215)) (fun _ h9 => h9) rfl dX8_readsOrder_3 ?_
  obtain ⟨q15, e16, h⟩ := ob h
  refine fr_ir (M := (modelW cyI m0 m1 m2 m3 m4 m5 m6 state history recorded slots isSaved pad padLength opened pos letter first second)) (va_runV (As := [.int pos]) (rest := [.ref m0]) ⟨hx, hb, hml, hown, hts⟩ (mX8_character l dC dI cyI cyO m0 m1 m2 m3 m4 m5 m6 state history recorded slots isSaved pad padLength opened pos letter first second pos _ q15 e16) (cwV 1 hts (gV ml_X8_218 im_X8_character se_X8_character in_X8 co_X8_character) rfl rfl rfl (by decide +kernel) ⟨Nat.le_of_ble_eq_true rfl, Nat.le_of_ble_eq_true rfl⟩) (cP_V hK hP hD [0, 1, 2, 3, 4, 5, 6] rfl rfl 0 rfl rfl) rfl rfl hl.1 rfl (lv_room (Nat.le_of_ble_eq_true rfl)) dX8_readsOrder_6 ⟨Nat.zero_le _, Nat.zero_le _⟩) hP hD hS hA [0, 1, 2, 3, 4, 5, 6] rfl (fun H locs hP hS => ?_)
  refine va_put (D := (dC, dI)) (ci := 8) (v := .int q15) (ty := .int) (C := RX8) (T := TX8) (N := 12) hx hb hts (fun w h9 => gb_mem (lay_X8 w h9)) tyX8 tyX8_ok nmX8 hown hK.1 hP hD hS 0 rfl rfl 9 (by decide) (hts _ (gb_mem fl_X8_221)) (fun _ h9 => h9) rfl (by decide +kernel) rfl rfl (Nat.le_of_ble_eq_true rfl) dX8_readsOrder_9 (fun H locs hP hD hS => ?_)
  have hP : va_P (dC, dI) vwCl (modelW cyI m0 m1 m2 m3 m4 m5 m6 state history recorded slots isSaved pad padLength opened pos q15 first second) H := hP
  have hD : va_D A (modelW cyI m0 m1 m2 m3 m4 m5 m6 state history recorded slots isSaved pad padLength opened pos q15 first second) := hD
  refine lv_aload_n hx hb dX8_readsOrder_12 rfl (lv_at hl 0 rfl) ?_
  refine va_get (D := (dC, dI)) (ci := 8) (v := .int q15) (C := RX8) (T := TX8) (N := 12) hx hb hts (fun w h9 => gb_mem (lay_X8 w h9)) hown hK.1 hP 0 rfl rfl 9 (by decide) (hts _ (gb_mem fl_X8_221)) (fun _ h9 => h9) rfl dX8_readsOrder_13 ?_
  refine fr_ir (M := ([] : va_W)) (va_runS (As := [.int q15]) (rest := []) ⟨hx, hb, hml, hown, hts⟩ (mX8_isOrder l dC dI cyI cyO q15 _ (fX8_isOrder q15) rfl) (va_cwS 1 hts (gS ml_X8_224 st_X8_isOrder in_X8 co_X8_isOrder) rfl rfl rfl (by decide +kernel) ⟨Nat.le_of_ble_eq_true rfl, Nat.le_of_ble_eq_true rfl⟩) (cP_S hK hP hD [] rfl rfl) rfl rfl hl.1 rfl (lv_room (Nat.le_of_ble_eq_true rfl)) dX8_readsOrder_16 ⟨Nat.zero_le _, Nat.zero_le _⟩) hP hD hS hA [] rfl (fun H locs hP hS => ?_)
  refine lv_if_ne (tgt := 24) hx hb dX8_readsOrder_19 (by decide) (fun c17 => ?_) (fun c17 => ?_)
  · have h := (if_neg c17).symm.trans h
    refine lv_aload_n hx hb dX8_readsOrder_24 rfl (lv_at hl 0 rfl) ?_
    refine lv_dup hx hb dX8_readsOrder_25 rfl ?_
    refine va_get (D := (dC, dI)) (ci := 8) (v := .int pos) (C := RX8) (T := TX8) (N := 12) hx hb hts (fun w h9 => gb_mem (lay_X8 w h9)) hown hK.1 hP 0 rfl rfl 8 (by decide) (hts _ (gb_mem fl_X8_215)) (fun _ h9 => h9) rfl dX8_readsOrder_26 ?_
    refine lv_iconst (v := 1) hx hb dX8_readsOrder_29 (by decide) ?_
    refine lv_iadd hx hb dX8_readsOrder_30 ?_
    refine va_put (D := (dC, dI)) (ci := 8) (v := .int (pos + 1)) (ty := .int) (C := RX8) (T := TX8) (N := 12) hx hb hts (fun w h9 => gb_mem (lay_X8 w h9)) tyX8 tyX8_ok nmX8 hown hK.1 hP hD hS 0 rfl rfl 8 (by decide) (hts _ (gb_mem fl_X8_215)) (fun _ h9 => h9) rfl (by decide +kernel) rfl rfl (Nat.le_of_ble_eq_true rfl) dX8_readsOrder_31 (fun H locs hP hD hS => ?_)
    have hP : va_P (dC, dI) vwCl (modelW cyI m0 m1 m2 m3 m4 m5 m6 state history recorded slots isSaved pad padLength opened (pos + 1) q15 first second) H := hP
    have hD : va_D A (modelW cyI m0 m1 m2 m3 m4 m5 m6 state history recorded slots isSaved pad padLength opened (pos + 1) q15 first second) := hD
    refine lv_aload_n hx hb dX8_readsOrder_34 rfl (lv_at hl 0 rfl) ?_
    refine va_get (D := (dC, dI)) (ci := 8) (v := .int q15) (C := RX8) (T := TX8) (N := 12) hx hb hts (fun w h9 => gb_mem (lay_X8 w h9)) hown hK.1 hP 0 rfl rfl 9 (by decide) (hts _ (gb_mem fl_X8_221)) (fun _ h9 => h9) rfl dX8_readsOrder_35 ?_
    refine lv_bipush (v := 107) hx hb dX8_readsOrder_38 (by decide) ?_
    refine lv_icmp_ne (tgt := 60) hx hb dX8_readsOrder_40 (by decide) (fun c18 => ?_) (fun c18 => ?_)
    · have h := (if_neg c18).symm.trans h
      exact kB60 pad padLength (pos + 1) q15 first second h _ _ hP hD hS ls (lv_sub hl [0] rfl)
    · have h := (if_pos c18).symm.trans h
      refine lv_aload_n hx hb dX8_readsOrder_43 rfl (lv_at hl 0 rfl) ?_
      refine lv_bipush (v := 45) hx hb dX8_readsOrder_44 (by decide) ?_
      obtain ⟨q19, e20, h⟩ := ob h
      refine fr_i (M := (modelW cyI m0 m1 m2 m3 m4 m5 m6 state history recorded slots isSaved pad padLength opened (pos + 1) q15 first second)) (M' := (modelW cyI m0 m1 m2 m3 m4 m5 m6 state history recorded slots isSaved pad padLength opened q19.2 q15 first second)) (L' := (modelW cyI m0 m1 m2 m3 m4 m5 m6 state history recorded slots isSaved pad padLength opened q19.2 q15 first second)) (va_runV (As := [.int 45]) (rest := []) ⟨hx, hb, hml, hown, hts⟩ (mX8_takes l dC dI cyI cyO m0 m1 m2 m3 m4 m5 m6 state history recorded slots isSaved pad padLength opened (pos + 1) q15 first second 45 _ q19 e20) (cwV 1 hts (gV ml_X8_227 im_X8_takes se_X8_takes in_X8 co_X8_takes) rfl rfl rfl (by decide +kernel) ⟨Nat.le_of_ble_eq_true rfl, Nat.le_of_ble_eq_true rfl⟩) (cP_V hK hP hD [0, 1, 2, 3, 4, 5, 6] rfl rfl 0 rfl rfl) rfl rfl hl.1 rfl (lv_room (Nat.le_of_ble_eq_true rfl)) dX8_readsOrder_46 ⟨Nat.zero_le _, Nat.zero_le _⟩) hP hD hS hA [0, 1, 2, 3, 4, 5, 6] rfl [(true, 0), (true, 1), (true, 2), (true, 3), (true, 4), (true, 5), (true, 6)] rfl rfl rfl (fun H locs hP hD hS => ?_)
      refine lv_if_eq (tgt := 60) hx hb dX8_readsOrder_49 (by decide) (fun c21 => ?_) (fun c21 => ?_)
      · have h := (if_pos c21).symm.trans h
        exact kB60 pad padLength q19.2 q15 first second h _ _ hP hD hS ls (lv_sub hl [0] rfl)
      · have h := (if_neg c21).symm.trans h
        refine lv_aload_n hx hb dX8_readsOrder_52 rfl (lv_at hl 0 rfl) ?_
        refine lv_bipush (v := (-6)) hx hb dX8_readsOrder_53 (by decide) ?_
        refine va_put (D := (dC, dI)) (ci := 8) (v := .int (-6)) (ty := .int) (C := RX8) (T := TX8) (N := 12) hx hb hts (fun w h9 => gb_mem (lay_X8 w h9)) tyX8 tyX8_ok nmX8 hown hK.1 hP hD hS 0 rfl rfl 10 (by decide) (hts _ (gb_mem fl_X8_230)) (fun _ h9 => h9) rfl (by decide +kernel) rfl rfl (Nat.le_of_ble_eq_true rfl) dX8_readsOrder_55 (fun H locs hP hD hS => ?_)
        have hP : va_P (dC, dI) vwCl (modelW cyI m0 m1 m2 m3 m4 m5 m6 state history recorded slots isSaved pad padLength opened q19.2 q15 (-6) second) H := hP
        have hD : va_D A (modelW cyI m0 m1 m2 m3 m4 m5 m6 state history recorded slots isSaved pad padLength opened q19.2 q15 (-6) second) := hD
        refine lv_iconst (v := 1) hx hb dX8_readsOrder_58 (by decide) ?_
        obtain rfl := Option.some.inj h
        exact e_z (v := 1) hx hb hr hlocks rfl hP hS dX8_readsOrder_59
  · have h := (if_pos c17).symm.trans h
    refine lv_iconst (v := 0) hx hb dX8_readsOrder_22 (by decide) ?_
    obtain rfl := Option.some.inj h
    exact e_z (v := 0) hx hb hr hlocks rfl hP hS dX8_readsOrder_23
noncomputable def fX8_findFault_b5 : Nat → (Nat → Int32) → Int32 → Int32 → Int32 → Int32 → Int32 → Option (Int32 × Int32 × Int32 × Int32 × Int32)
  | 0, _, _, _, _, _, _ => none
  | fuel + 1, pad, padLength, pos, letter, first, second =>
  ((fX8_readsOrder pad padLength pos letter first second).bind fun q1 => (if q1.1 = 0 then (some (q1.2.1, q1.2.1, q1.2.2.1, q1.2.2.2.1, q1.2.2.2.2)) else (if q1.2.1 = padLength then (some ((-6), q1.2.1, q1.2.2.1, q1.2.2.2.1, q1.2.2.2.2)) else ((fX8_takes pad padLength q1.2.1 59).bind fun q5 => (if q5.1 = 0 then (some (q5.2, q5.2, q1.2.2.1, q1.2.2.2.1, q1.2.2.2.2)) else fX8_findFault_b5 fuel pad padLength q5.2 q1.2.2.1 q1.2.2.2.1 q1.2.2.2.2)))))

noncomputable def fX8_findFault (pad : Nat → Int32) (padLength : Int32) (pos : Int32) (letter : Int32) (first : Int32) (second : Int32) : Option (Int32 × Int32 × Int32 × Int32 × Int32) :=
  fX8_findFault_b5 6000 pad padLength 0 letter first second
set_option maxHeartbeats 1000000 in
set_option maxRecDepth 100000 in
theorem mX8_findFault (l : Launch) (dC : Nat → ClassId) (dI : Nat → Nat → Nat) (cyI cyO : ClassId) (m0 m1 m2 m3 m4 m5 m6 : Nat) (state : Nat → Int32) (history : Nat → Int32) (recorded : Int32) (slots : Nat → Int32) (isSaved : Nat → Int32) (pad : Nat → Int32) (padLength : Int32) (opened : Nat → Int32) (pos : Int32) (letter : Int32) (first : Int32) (second : Int32)  (sz : Nat) (res : Int32 × Int32 × Int32 × Int32 × Int32) (h : fX8_findFault pad padLength pos letter first second = some res) : Met l yX8_findFault (wsG yX8_findFault cX8_findFault 1 (some .int)) ({ frames := 3, cells := 0, slots := 0, locals := 64 }) (cP dC dI cyI cyO sz [.ref m0] (modelW cyI m0 m1 m2 m3 m4 m5 m6 state history recorded slots isSaved pad padLength opened pos letter first second)) (cI dC dI res.1 (modelW cyI m0 m1 m2 m3 m4 m5 m6 state history recorded slots isSaved pad padLength opened res.2.1 res.2.2.1 res.2.2.2.1 res.2.2.2.2) (va_A (modelW cyI m0 m1 m2 m3 m4 m5 m6 state history recorded slots isSaved pad padLength opened pos letter first second) sz)) 0 0 (va_A (modelW cyI m0 m1 m2 m3 m4 m5 m6 state history recorded slots isSaved pad padLength opened pos letter first second) sz) := by
  refine Met.ofW (cc := cX8_findFault) (maxL := 1) (ret := (some .int)) (by decide) rfl ?_
  intro p e s m args below meth c s₁ B hml hv
  obtain ⟨rfl, hsz, hP, hK, hD0⟩ := hv
  have hx := B.exec
  have hb := B.bytes
  have hr := B.returns
  have hts := atoms_spec (ws := wsG yX8_findFault cX8_findFault 1 (some .int)) B.pre
  have hown : s.vm.findClass RX8 = some m.cls := findClass_of_methodNamed B.named
  have hlocks := B.notSynchronized
  subst hsz
  have hD := hD0.self (sz := s.heap.size)
  generalize hAe : va_A (modelW cyI m0 m1 m2 m3 m4 m5 m6 state history recorded slots isSaved pad padLength opened pos letter first second) s.heap.size = A at hD ⊢
  have hA : ∀ q : Nat, s.heap.size ≤ q → A q := fun q h => by rw [← hAe]; exact Or.inr h
  have hS : va_S A s.heap s.heap [] := va_S.rf
  have kB5 : ∀ (fuel : Nat) (pad : Nat → Int32) (padLength : Int32) (pos : Int32) (letter : Int32) (first : Int32) (second : Int32), fX8_findFault_b5 fuel pad padLength pos letter first second = some res → ∀ (H : Heap) (locs : List Loc), va_P (dC, dI) vwCl (modelW cyI m0 m1 m2 m3 m4 m5 m6 state history recorded slots isSaved pad padLength opened pos letter first second) H → va_D A (modelW cyI m0 m1 m2 m3 m4 m5 m6 state history recorded slots isSaved pad padLength opened pos letter first second) → va_S A s.heap H locs → ∀ ls : Array Slot, lv_has ls 1 [(0, .ref m0)] → W p l e (headSpec (wsG yX8_findFault cX8_findFault 1 (some .int)) ({ frames := 3, cells := 0, slots := 0, locals := 64 })).room s m (([.ref m0] : List Value).toArray) below meth c H locs 0 0 (MQ below (cI dC dI res.1 (modelW cyI m0 m1 m2 m3 m4 m5 m6 state history recorded slots isSaved pad padLength opened res.2.1 res.2.2.1 res.2.2.2.1 res.2.2.2.2) A) ([.ref m0] : List Value).toArray s 0 0 A) (F0 m 5 ls []) := by
    intro fuel
    induction fuel with
    | zero => intro pad padLength pos letter first second h; rw [fX8_findFault_b5] at h; cases h
    | succ fuel ih =>
      intro pad padLength pos letter first second h H locs hP hD hS ls hl
      rw [fX8_findFault_b5] at h
      refine lv_aload_n hx hb dX8_findFault_5 rfl (lv_at hl 0 rfl) ?_
      obtain ⟨q1, e2, h⟩ := ob h
      refine fr_i (M := (modelW cyI m0 m1 m2 m3 m4 m5 m6 state history recorded slots isSaved pad padLength opened pos letter first second)) (M' := (modelW cyI m0 m1 m2 m3 m4 m5 m6 state history recorded slots isSaved pad padLength opened q1.2.1 q1.2.2.1 q1.2.2.2.1 q1.2.2.2.2)) (L' := (modelW cyI m0 m1 m2 m3 m4 m5 m6 state history recorded slots isSaved pad padLength opened q1.2.1 q1.2.2.1 q1.2.2.2.1 q1.2.2.2.2)) (va_runV (As := []) (rest := []) ⟨hx, hb, hml, hown, hts⟩ (mX8_readsOrder l dC dI cyI cyO m0 m1 m2 m3 m4 m5 m6 state history recorded slots isSaved pad padLength opened pos letter first second _ q1 e2) (cwV 0 hts (gV ml_X8_239 im_X8_readsOrder se_X8_readsOrder in_X8 co_X8_readsOrder) rfl rfl rfl (by decide +kernel) ⟨Nat.le_of_ble_eq_true rfl, Nat.le_of_ble_eq_true rfl⟩) (cP_V hK hP hD [0, 1, 2, 3, 4, 5, 6] rfl rfl 0 rfl rfl) rfl rfl hl.1 rfl (lv_room (Nat.le_of_ble_eq_true rfl)) dX8_findFault_6 ⟨Nat.zero_le _, Nat.zero_le _⟩) hP hD hS hA [0, 1, 2, 3, 4, 5, 6] rfl [(true, 0), (true, 1), (true, 2), (true, 3), (true, 4), (true, 5), (true, 6)] rfl rfl rfl (fun H locs hP hD hS => ?_)
      refine lv_if_ne (tgt := 17) hx hb dX8_findFault_9 (by decide) (fun c3 => ?_) (fun c3 => ?_)
      · have h := (if_neg c3).symm.trans h
        refine lv_aload_n hx hb dX8_findFault_17 rfl (lv_at hl 0 rfl) ?_
        refine va_get (D := (dC, dI)) (ci := 8) (v := .int q1.2.1) (C := RX8) (T := TX8) (N := 12) hx hb hts (fun w h9 => gb_mem (lay_X8 w h9)) hown hK.1 hP 0 rfl rfl 8 (by decide) (hts _ (gb_mem fl_X8_215)) (fun _ h9 => h9) rfl dX8_findFault_18 ?_
        refine lv_aload_n hx hb dX8_findFault_21 rfl (lv_at hl 0 rfl) ?_
        refine va_get (D := (dC, dI)) (ci := 8) (v := .int padLength) (C := RX8) (T := TX8) (N := 12) hx hb hts (fun w h9 => gb_mem (lay_X8 w h9)) hown hK.1 hP 0 rfl rfl 6 (by decide) (hts _ (gb_mem fl_X8_204)) (fun _ h9 => h9) rfl dX8_findFault_22 ?_
        refine lv_icmp_ne (tgt := 31) hx hb dX8_findFault_25 (by decide) (fun c4 => ?_) (fun c4 => ?_)
        · have h := (if_neg c4).symm.trans h
          refine lv_aload_n hx hb dX8_findFault_31 rfl (lv_at hl 0 rfl) ?_
          refine lv_bipush (v := 59) hx hb dX8_findFault_32 (by decide) ?_
          obtain ⟨q5, e6, h⟩ := ob h
          refine fr_i (M := (modelW cyI m0 m1 m2 m3 m4 m5 m6 state history recorded slots isSaved pad padLength opened q1.2.1 q1.2.2.1 q1.2.2.2.1 q1.2.2.2.2)) (M' := (modelW cyI m0 m1 m2 m3 m4 m5 m6 state history recorded slots isSaved pad padLength opened q5.2 q1.2.2.1 q1.2.2.2.1 q1.2.2.2.2)) (L' := (modelW cyI m0 m1 m2 m3 m4 m5 m6 state history recorded slots isSaved pad padLength opened q5.2 q1.2.2.1 q1.2.2.2.1 q1.2.2.2.2)) (va_runV (As := [.int 59]) (rest := []) ⟨hx, hb, hml, hown, hts⟩ (mX8_takes l dC dI cyI cyO m0 m1 m2 m3 m4 m5 m6 state history recorded slots isSaved pad padLength opened q1.2.1 q1.2.2.1 q1.2.2.2.1 q1.2.2.2.2 59 _ q5 e6) (cwV 1 hts (gV ml_X8_227 im_X8_takes se_X8_takes in_X8 co_X8_takes) rfl rfl rfl (by decide +kernel) ⟨Nat.le_of_ble_eq_true rfl, Nat.le_of_ble_eq_true rfl⟩) (cP_V hK hP hD [0, 1, 2, 3, 4, 5, 6] rfl rfl 0 rfl rfl) rfl rfl hl.1 rfl (lv_room (Nat.le_of_ble_eq_true rfl)) dX8_findFault_34 ⟨Nat.zero_le _, Nat.zero_le _⟩) hP hD hS hA [0, 1, 2, 3, 4, 5, 6] rfl [(true, 0), (true, 1), (true, 2), (true, 3), (true, 4), (true, 5), (true, 6)] rfl rfl rfl (fun H locs hP hD hS => ?_)
          refine lv_if_ne (tgt := 5) hx hb dX8_findFault_37 (by decide) (fun c7 => ?_) (fun c7 => ?_)
          · have h := (if_neg c7).symm.trans h
            exact ih pad padLength q5.2 q1.2.2.1 q1.2.2.2.1 q1.2.2.2.2 h _ _ hP hD hS ls (lv_sub hl [0] rfl)
          · have h := (if_pos c7).symm.trans h
            refine lv_aload_n hx hb dX8_findFault_40 rfl (lv_at hl 0 rfl) ?_
            refine va_get (D := (dC, dI)) (ci := 8) (v := .int q5.2) (C := RX8) (T := TX8) (N := 12) hx hb hts (fun w h9 => gb_mem (lay_X8 w h9)) hown hK.1 hP 0 rfl rfl 8 (by decide) (hts _ (gb_mem fl_X8_215)) (fun _ h9 => h9) rfl dX8_findFault_41 ?_
            obtain rfl := Option.some.inj h
            exact e_i hx hb hr hlocks hP hS dX8_findFault_44
        · have h := (if_pos c4).symm.trans h
          refine lv_bipush (v := (-6)) hx hb dX8_findFault_28 (by decide) ?_
          obtain rfl := Option.some.inj h
          exact e_i hx hb hr hlocks hP hS dX8_findFault_30
      · have h := (if_pos c3).symm.trans h
        refine lv_aload_n hx hb dX8_findFault_12 rfl (lv_at hl 0 rfl) ?_
        refine va_get (D := (dC, dI)) (ci := 8) (v := .int q1.2.1) (C := RX8) (T := TX8) (N := 12) hx hb hts (fun w h9 => gb_mem (lay_X8 w h9)) hown hK.1 hP 0 rfl rfl 8 (by decide) (hts _ (gb_mem fl_X8_215)) (fun _ h9 => h9) rfl dX8_findFault_13 ?_
        obtain rfl := Option.some.inj h
        exact e_i hx hb hr hlocks hP hS dX8_findFault_16
  have hl := lv_entry ([.ref m0]) (n := 1) (Nat.le_of_ble_eq_true rfl)
  rw [lg_entry_eq]
  generalize (lg_sl ([.ref m0]) ++ List.replicate (1 - (lg_sl ([.ref m0])).length) Slot.unset).toArray = ls at hl ⊢
  have hl : lv_has ls 1 [(0, .ref m0)] := hl
  unfold fX8_findFault at h
  refine lv_aload_n hx hb dX8_findFault_0 rfl (lv_at hl 0 rfl) ?_
  refine lv_iconst (v := 0) hx hb dX8_findFault_1 (by decide) ?_
  refine va_put (D := (dC, dI)) (ci := 8) (v := .int 0) (ty := .int) (C := RX8) (T := TX8) (N := 12) hx hb hts (fun w h9 => gb_mem (lay_X8 w h9)) tyX8 tyX8_ok nmX8 hown hK.1 hP hD hS 0 rfl rfl 8 (by decide) (hts _ (gb_mem fl_X8_215)) (fun _ h9 => h9) rfl (by decide +kernel) rfl rfl (Nat.le_of_ble_eq_true rfl) dX8_findFault_2 (fun H locs hP hD hS => ?_)
  have hP : va_P (dC, dI) vwCl (modelW cyI m0 m1 m2 m3 m4 m5 m6 state history recorded slots isSaved pad padLength opened 0 letter first second) H := hP
  have hD : va_D A (modelW cyI m0 m1 m2 m3 m4 m5 m6 state history recorded slots isSaved pad padLength opened 0 letter first second) := hD
  exact kB5 6000 pad padLength 0 letter first second h _ _ hP hD hS ls (lv_sub hl [0] rfl)

noncomputable def fX8_fault (pad : Nat → Int32) (padLength : Int32) (pos : Int32) (letter : Int32) (first : Int32) (second : Int32) : Option (Int32 × Int32 × Int32 × Int32 × Int32) :=
  ((fX8_findFault pad padLength pos letter first second).bind fun q1 => (some (q1.1, q1.2.1, q1.2.2.1, q1.2.2.2.1, q1.2.2.2.2)))
set_option maxHeartbeats 1000000 in
set_option maxRecDepth 100000 in
theorem mX8_fault (l : Launch) (dC : Nat → ClassId) (dI : Nat → Nat → Nat) (cyI cyO : ClassId) (m0 m1 m2 m3 m4 m5 m6 : Nat) (state : Nat → Int32) (history : Nat → Int32) (recorded : Int32) (slots : Nat → Int32) (isSaved : Nat → Int32) (pad : Nat → Int32) (padLength : Int32) (opened : Nat → Int32) (pos : Int32) (letter : Int32) (first : Int32) (second : Int32)  (sz : Nat) (res : Int32 × Int32 × Int32 × Int32 × Int32) (h : fX8_fault pad padLength pos letter first second = some res) : Met l yX8_fault (wsG yX8_fault cX8_fault 1 (some .int)) ({ frames := 4, cells := 0, slots := 0, locals := 84 }) (cP dC dI cyI cyO sz [.ref m0] (modelW cyI m0 m1 m2 m3 m4 m5 m6 state history recorded slots isSaved pad padLength opened pos letter first second)) (cI dC dI res.1 (modelW cyI m0 m1 m2 m3 m4 m5 m6 state history recorded slots isSaved pad padLength opened res.2.1 res.2.2.1 res.2.2.2.1 res.2.2.2.2) (va_A (modelW cyI m0 m1 m2 m3 m4 m5 m6 state history recorded slots isSaved pad padLength opened pos letter first second) sz)) 0 0 (va_A (modelW cyI m0 m1 m2 m3 m4 m5 m6 state history recorded slots isSaved pad padLength opened pos letter first second) sz) := by
  refine Met.ofW (cc := cX8_fault) (maxL := 1) (ret := (some .int)) (by decide) rfl ?_
  intro p e s m args below meth c s₁ B hml hv
  obtain ⟨rfl, hsz, hP, hK, hD0⟩ := hv
  have hx := B.exec
  have hb := B.bytes
  have hr := B.returns
  have hts := atoms_spec (ws := wsG yX8_fault cX8_fault 1 (some .int)) B.pre
  have hown : s.vm.findClass RX8 = some m.cls := findClass_of_methodNamed B.named
  have hlocks := B.notSynchronized
  subst hsz
  have hD := hD0.self (sz := s.heap.size)
  generalize hAe : va_A (modelW cyI m0 m1 m2 m3 m4 m5 m6 state history recorded slots isSaved pad padLength opened pos letter first second) s.heap.size = A at hD ⊢
  have hA : ∀ q : Nat, s.heap.size ≤ q → A q := fun q h => by rw [← hAe]; exact Or.inr h
  have hS : va_S A s.heap s.heap [] := va_S.rf
  have hl := lv_entry ([.ref m0]) (n := 1) (Nat.le_of_ble_eq_true rfl)
  rw [lg_entry_eq]
  generalize (lg_sl ([.ref m0]) ++ List.replicate (1 - (lg_sl ([.ref m0])).length) Slot.unset).toArray = ls at hl ⊢
  have hl : lv_has ls 1 [(0, .ref m0)] := hl
  unfold fX8_fault at h
  refine lv_aload_n hx hb dX8_fault_0 rfl (lv_at hl 0 rfl) ?_
  obtain ⟨q1, e2, h⟩ := ob h
  refine fr_i (M := (modelW cyI m0 m1 m2 m3 m4 m5 m6 state history recorded slots isSaved pad padLength opened pos letter first second)) (M' := (modelW cyI m0 m1 m2 m3 m4 m5 m6 state history recorded slots isSaved pad padLength opened q1.2.1 q1.2.2.1 q1.2.2.2.1 q1.2.2.2.2)) (L' := (modelW cyI m0 m1 m2 m3 m4 m5 m6 state history recorded slots isSaved pad padLength opened q1.2.1 q1.2.2.1 q1.2.2.2.1 q1.2.2.2.2)) (va_runV (As := []) (rest := []) ⟨hx, hb, hml, hown, hts⟩ (mX8_findFault l dC dI cyI cyO m0 m1 m2 m3 m4 m5 m6 state history recorded slots isSaved pad padLength opened pos letter first second _ q1 e2) (cwV 0 hts (gV ml_X8_243 im_X8_findFault se_X8_findFault in_X8 co_X8_findFault) rfl rfl rfl (by decide +kernel) ⟨Nat.le_of_ble_eq_true rfl, Nat.le_of_ble_eq_true rfl⟩) (cP_V hK hP hD [0, 1, 2, 3, 4, 5, 6] rfl rfl 0 rfl rfl) rfl rfl hl.1 rfl (lv_room (Nat.le_of_ble_eq_true rfl)) dX8_fault_1 ⟨Nat.zero_le _, Nat.zero_le _⟩) hP hD hS hA [0, 1, 2, 3, 4, 5, 6] rfl [(true, 0), (true, 1), (true, 2), (true, 3), (true, 4), (true, 5), (true, 6)] rfl rfl rfl (fun H locs hP hD hS => ?_)
  obtain rfl := Option.some.inj h
  exact e_i hx hb hr hlocks hP hS dX8_fault_4

noncomputable def fX8_whyNotDone (state : Nat → Int32) (letter : Int32) (first : Int32) (second : Int32) : Option (Int32) :=
  (if letter = 98 then ((fX8_whyNoBox state first).bind fun q2 => (some q2)) else (if letter = 107 then ((fX8_whyNoKey state first).bind fun q5 => (some q5)) else (if letter = 114 then ((fX8_whyNotRenewed state first).bind fun q8 => (some q8)) else (if letter = 120 then ((fX8_whyKeyNotThrown state first).bind fun q11 => (some q11)) else (if letter = 121 then ((fX8_whyBoxNotThrown state first).bind fun q14 => (some q14)) else ((fX8_whyNoCopy state first second).bind fun q16 => (some q16)))))))
set_option maxHeartbeats 1000000 in
set_option maxRecDepth 100000 in
theorem mX8_whyNotDone (l : Launch) (dC : Nat → ClassId) (dI : Nat → Nat → Nat) (cyI cyO : ClassId) (m0 m1 m2 m3 m4 m5 m6 : Nat) (state : Nat → Int32) (history : Nat → Int32) (recorded : Int32) (slots : Nat → Int32) (isSaved : Nat → Int32) (pad : Nat → Int32) (padLength : Int32) (opened : Nat → Int32) (pos : Int32) (letter : Int32) (first : Int32) (second : Int32)  (sz : Nat) (res : Int32) (h : fX8_whyNotDone state letter first second = some res) : Met l yX8_whyNotDone (wsG yX8_whyNotDone cX8_whyNotDone 1 (some .int)) ({ frames := 6, cells := 0, slots := 0, locals := 135 }) (cP dC dI cyI cyO sz [.ref m0] (modelW cyI m0 m1 m2 m3 m4 m5 m6 state history recorded slots isSaved pad padLength opened pos letter first second)) (cI dC dI res (modelW cyI m0 m1 m2 m3 m4 m5 m6 state history recorded slots isSaved pad padLength opened pos letter first second) (va_A (modelW cyI m0 m1 m2 m3 m4 m5 m6 state history recorded slots isSaved pad padLength opened pos letter first second) sz)) 0 0 (va_A (modelW cyI m0 m1 m2 m3 m4 m5 m6 state history recorded slots isSaved pad padLength opened pos letter first second) sz) := by
  refine Met.ofW (cc := cX8_whyNotDone) (maxL := 1) (ret := (some .int)) (by decide) rfl ?_
  intro p e s m args below meth c s₁ B hml hv
  obtain ⟨rfl, hsz, hP, hK, hD0⟩ := hv
  have hx := B.exec
  have hb := B.bytes
  have hr := B.returns
  have hts := atoms_spec (ws := wsG yX8_whyNotDone cX8_whyNotDone 1 (some .int)) B.pre
  have hown : s.vm.findClass RX8 = some m.cls := findClass_of_methodNamed B.named
  have hlocks := B.notSynchronized
  subst hsz
  have hD := hD0.self (sz := s.heap.size)
  generalize hAe : va_A (modelW cyI m0 m1 m2 m3 m4 m5 m6 state history recorded slots isSaved pad padLength opened pos letter first second) s.heap.size = A at hD ⊢
  have hA : ∀ q : Nat, s.heap.size ≤ q → A q := fun q h => by rw [← hAe]; exact Or.inr h
  have hS : va_S A s.heap s.heap [] := va_S.rf
  have hl := lv_entry ([.ref m0]) (n := 1) (Nat.le_of_ble_eq_true rfl)
  rw [lg_entry_eq]
  generalize (lg_sl ([.ref m0]) ++ List.replicate (1 - (lg_sl ([.ref m0])).length) Slot.unset).toArray = ls at hl ⊢
  have hl : lv_has ls 1 [(0, .ref m0)] := hl
  unfold fX8_whyNotDone at h
  refine lv_aload_n hx hb dX8_whyNotDone_0 rfl (lv_at hl 0 rfl) ?_
  refine va_get (D := (dC, dI)) (ci := 8) (v := .int letter) (C := RX8) (T := TX8) (N := 12) hx hb hts (fun w h9 => gb_mem (lay_X8 w h9)) hown hK.1 hP 0 rfl rfl 9 (by decide) (hts _ (gb_mem fl_X8_221)) (fun _ h9 => h9) rfl dX8_whyNotDone_1 ?_
  by_cases c1 : letter = 98
  · have h := (if_pos c1).symm.trans h
    refine lv_lookup (off := 61) (tgt := 65) hx hb dX8_whyNotDone_4 (by decide) (by rw [c1]; first | done | rfl) (by decide) ?_
    refine lv_aload_n hx hb dX8_whyNotDone_65 rfl (lv_at hl 0 rfl) ?_
    refine lv_aload_n hx hb dX8_whyNotDone_66 rfl (lv_at hl 0 rfl) ?_
    refine va_get (D := (dC, dI)) (ci := 8) (v := .int first) (C := RX8) (T := TX8) (N := 12) hx hb hts (fun w h9 => gb_mem (lay_X8 w h9)) hown hK.1 hP 0 rfl rfl 10 (by decide) (hts _ (gb_mem fl_X8_230)) (fun _ h9 => h9) rfl dX8_whyNotDone_67 ?_
    obtain ⟨q2, e3, h⟩ := ob h
    refine fr_ir (M := (modelW cyI m0 m1 m2 m3 m4 m5 m6 state history recorded slots isSaved pad padLength opened pos letter first second)) (va_runV (As := [.int first]) (rest := []) ⟨hx, hb, hml, hown, hts⟩ (mX8_whyNoBox l dC dI cyI cyO m0 m1 m2 m3 m4 m5 m6 state history recorded slots isSaved pad padLength opened pos letter first second first _ q2 e3) (cwV 1 hts (gV ml_X8_120 im_X8_whyNoBox se_X8_whyNoBox in_X8 co_X8_whyNoBox) rfl rfl rfl (by decide +kernel) ⟨Nat.le_of_ble_eq_true rfl, Nat.le_of_ble_eq_true rfl⟩) (cP_V hK hP hD [0, 1, 2, 3, 4, 5, 6] rfl rfl 0 rfl rfl) rfl rfl hl.1 rfl (lv_room (Nat.le_of_ble_eq_true rfl)) dX8_whyNotDone_70 ⟨Nat.zero_le _, Nat.zero_le _⟩) hP hD hS hA [0, 1, 2, 3, 4, 5, 6] rfl (fun H locs hP hS => ?_)
    obtain rfl := Option.some.inj h
    exact e_i hx hb hr hlocks hP hS dX8_whyNotDone_73
  · have h := (if_neg c1).symm.trans h
    by_cases c4 : letter = 107
    · have h := (if_pos c4).symm.trans h
      refine lv_lookup (off := 52) (tgt := 56) hx hb dX8_whyNotDone_4 (by decide) (by rw [c4]; first | done | rfl) (by decide) ?_
      refine lv_aload_n hx hb dX8_whyNotDone_56 rfl (lv_at hl 0 rfl) ?_
      refine lv_aload_n hx hb dX8_whyNotDone_57 rfl (lv_at hl 0 rfl) ?_
      refine va_get (D := (dC, dI)) (ci := 8) (v := .int first) (C := RX8) (T := TX8) (N := 12) hx hb hts (fun w h9 => gb_mem (lay_X8 w h9)) hown hK.1 hP 0 rfl rfl 10 (by decide) (hts _ (gb_mem fl_X8_230)) (fun _ h9 => h9) rfl dX8_whyNotDone_58 ?_
      obtain ⟨q5, e6, h⟩ := ob h
      refine fr_ir (M := (modelW cyI m0 m1 m2 m3 m4 m5 m6 state history recorded slots isSaved pad padLength opened pos letter first second)) (va_runV (As := [.int first]) (rest := []) ⟨hx, hb, hml, hown, hts⟩ (mX8_whyNoKey l dC dI cyI cyO m0 m1 m2 m3 m4 m5 m6 state history recorded slots isSaved pad padLength opened pos letter first second first _ q5 e6) (cwV 1 hts (gV ml_X8_111 im_X8_whyNoKey se_X8_whyNoKey in_X8 co_X8_whyNoKey) rfl rfl rfl (by decide +kernel) ⟨Nat.le_of_ble_eq_true rfl, Nat.le_of_ble_eq_true rfl⟩) (cP_V hK hP hD [0, 1, 2, 3, 4, 5, 6] rfl rfl 0 rfl rfl) rfl rfl hl.1 rfl (lv_room (Nat.le_of_ble_eq_true rfl)) dX8_whyNotDone_61 ⟨Nat.zero_le _, Nat.zero_le _⟩) hP hD hS hA [0, 1, 2, 3, 4, 5, 6] rfl (fun H locs hP hS => ?_)
      obtain rfl := Option.some.inj h
      exact e_i hx hb hr hlocks hP hS dX8_whyNotDone_64
    · have h := (if_neg c4).symm.trans h
      by_cases c7 : letter = 114
      · have h := (if_pos c7).symm.trans h
        refine lv_lookup (off := 70) (tgt := 74) hx hb dX8_whyNotDone_4 (by decide) (by rw [c7]; first | done | rfl) (by decide) ?_
        refine lv_aload_n hx hb dX8_whyNotDone_74 rfl (lv_at hl 0 rfl) ?_
        refine lv_aload_n hx hb dX8_whyNotDone_75 rfl (lv_at hl 0 rfl) ?_
        refine va_get (D := (dC, dI)) (ci := 8) (v := .int first) (C := RX8) (T := TX8) (N := 12) hx hb hts (fun w h9 => gb_mem (lay_X8 w h9)) hown hK.1 hP 0 rfl rfl 10 (by decide) (hts _ (gb_mem fl_X8_230)) (fun _ h9 => h9) rfl dX8_whyNotDone_76 ?_
        obtain ⟨q8, e9, h⟩ := ob h
        refine fr_ir (M := (modelW cyI m0 m1 m2 m3 m4 m5 m6 state history recorded slots isSaved pad padLength opened pos letter first second)) (va_runV (As := [.int first]) (rest := []) ⟨hx, hb, hml, hown, hts⟩ (mX8_whyNotRenewed l dC dI cyI cyO m0 m1 m2 m3 m4 m5 m6 state history recorded slots isSaved pad padLength opened pos letter first second first _ q8 e9) (cwV 1 hts (gV ml_X8_147 im_X8_whyNotRenewed se_X8_whyNotRenewed in_X8 co_X8_whyNotRenewed) rfl rfl rfl (by decide +kernel) ⟨Nat.le_of_ble_eq_true rfl, Nat.le_of_ble_eq_true rfl⟩) (cP_V hK hP hD [0, 1, 2, 3, 4, 5, 6] rfl rfl 0 rfl rfl) rfl rfl hl.1 rfl (lv_room (Nat.le_of_ble_eq_true rfl)) dX8_whyNotDone_79 ⟨Nat.zero_le _, Nat.zero_le _⟩) hP hD hS hA [0, 1, 2, 3, 4, 5, 6] rfl (fun H locs hP hS => ?_)
        obtain rfl := Option.some.inj h
        exact e_i hx hb hr hlocks hP hS dX8_whyNotDone_82
      · have h := (if_neg c7).symm.trans h
        by_cases c10 : letter = 120
        · have h := (if_pos c10).symm.trans h
          refine lv_lookup (off := 79) (tgt := 83) hx hb dX8_whyNotDone_4 (by decide) (by rw [c10]; first | done | rfl) (by decide) ?_
          refine lv_aload_n hx hb dX8_whyNotDone_83 rfl (lv_at hl 0 rfl) ?_
          refine lv_aload_n hx hb dX8_whyNotDone_84 rfl (lv_at hl 0 rfl) ?_
          refine va_get (D := (dC, dI)) (ci := 8) (v := .int first) (C := RX8) (T := TX8) (N := 12) hx hb hts (fun w h9 => gb_mem (lay_X8 w h9)) hown hK.1 hP 0 rfl rfl 10 (by decide) (hts _ (gb_mem fl_X8_230)) (fun _ h9 => h9) rfl dX8_whyNotDone_85 ?_
          obtain ⟨q11, e12, h⟩ := ob h
          refine fr_ir (M := (modelW cyI m0 m1 m2 m3 m4 m5 m6 state history recorded slots isSaved pad padLength opened pos letter first second)) (va_runV (As := [.int first]) (rest := []) ⟨hx, hb, hml, hown, hts⟩ (mX8_whyKeyNotThrown l dC dI cyI cyO m0 m1 m2 m3 m4 m5 m6 state history recorded slots isSaved pad padLength opened pos letter first second first _ q11 e12) (cwV 1 hts (gV ml_X8_171 im_X8_whyKeyNotThrown se_X8_whyKeyNotThrown in_X8 co_X8_whyKeyNotThrown) rfl rfl rfl (by decide +kernel) ⟨Nat.le_of_ble_eq_true rfl, Nat.le_of_ble_eq_true rfl⟩) (cP_V hK hP hD [0, 1, 2, 3, 4, 5, 6] rfl rfl 0 rfl rfl) rfl rfl hl.1 rfl (lv_room (Nat.le_of_ble_eq_true rfl)) dX8_whyNotDone_88 ⟨Nat.zero_le _, Nat.zero_le _⟩) hP hD hS hA [0, 1, 2, 3, 4, 5, 6] rfl (fun H locs hP hS => ?_)
          obtain rfl := Option.some.inj h
          exact e_i hx hb hr hlocks hP hS dX8_whyNotDone_91
        · have h := (if_neg c10).symm.trans h
          by_cases c13 : letter = 121
          · have h := (if_pos c13).symm.trans h
            refine lv_lookup (off := 88) (tgt := 92) hx hb dX8_whyNotDone_4 (by decide) (by rw [c13]; first | done | rfl) (by decide) ?_
            refine lv_aload_n hx hb dX8_whyNotDone_92 rfl (lv_at hl 0 rfl) ?_
            refine lv_aload_n hx hb dX8_whyNotDone_93 rfl (lv_at hl 0 rfl) ?_
            refine va_get (D := (dC, dI)) (ci := 8) (v := .int first) (C := RX8) (T := TX8) (N := 12) hx hb hts (fun w h9 => gb_mem (lay_X8 w h9)) hown hK.1 hP 0 rfl rfl 10 (by decide) (hts _ (gb_mem fl_X8_230)) (fun _ h9 => h9) rfl dX8_whyNotDone_94 ?_
            obtain ⟨q14, e15, h⟩ := ob h
            refine fr_ir (M := (modelW cyI m0 m1 m2 m3 m4 m5 m6 state history recorded slots isSaved pad padLength opened pos letter first second)) (va_runV (As := [.int first]) (rest := []) ⟨hx, hb, hml, hown, hts⟩ (mX8_whyBoxNotThrown l dC dI cyI cyO m0 m1 m2 m3 m4 m5 m6 state history recorded slots isSaved pad padLength opened pos letter first second first _ q14 e15) (cwV 1 hts (gV ml_X8_180 im_X8_whyBoxNotThrown se_X8_whyBoxNotThrown in_X8 co_X8_whyBoxNotThrown) rfl rfl rfl (by decide +kernel) ⟨Nat.le_of_ble_eq_true rfl, Nat.le_of_ble_eq_true rfl⟩) (cP_V hK hP hD [0, 1, 2, 3, 4, 5, 6] rfl rfl 0 rfl rfl) rfl rfl hl.1 rfl (lv_room (Nat.le_of_ble_eq_true rfl)) dX8_whyNotDone_97 ⟨Nat.zero_le _, Nat.zero_le _⟩) hP hD hS hA [0, 1, 2, 3, 4, 5, 6] rfl (fun H locs hP hS => ?_)
            obtain rfl := Option.some.inj h
            exact e_i hx hb hr hlocks hP hS dX8_whyNotDone_100
          · have h := (if_neg c13).symm.trans h
            refine lv_lookup (off := 97) (tgt := 101) hx hb dX8_whyNotDone_4 (by decide) ((lv_osw (a := 98) c1 (by decide)).trans ((lv_osw (a := 107) c4 (by decide)).trans ((lv_osw (a := 114) c7 (by decide)).trans ((lv_osw (a := 120) c10 (by decide)).trans ((lv_osw (a := 121) c13 (by decide)).trans (rfl)))))) (by decide) ?_
            refine lv_aload_n hx hb dX8_whyNotDone_101 rfl (lv_at hl 0 rfl) ?_
            refine lv_aload_n hx hb dX8_whyNotDone_102 rfl (lv_at hl 0 rfl) ?_
            refine va_get (D := (dC, dI)) (ci := 8) (v := .int first) (C := RX8) (T := TX8) (N := 12) hx hb hts (fun w h9 => gb_mem (lay_X8 w h9)) hown hK.1 hP 0 rfl rfl 10 (by decide) (hts _ (gb_mem fl_X8_230)) (fun _ h9 => h9) rfl dX8_whyNotDone_103 ?_
            refine lv_aload_n hx hb dX8_whyNotDone_106 rfl (lv_at hl 0 rfl) ?_
            refine va_get (D := (dC, dI)) (ci := 8) (v := .int second) (C := RX8) (T := TX8) (N := 12) hx hb hts (fun w h9 => gb_mem (lay_X8 w h9)) hown hK.1 hP 0 rfl rfl 11 (by decide) (hts _ (gb_mem fl_X8_236)) (fun _ h9 => h9) rfl dX8_whyNotDone_107 ?_
            obtain ⟨q16, e17, h⟩ := ob h
            refine fr_ir (M := (modelW cyI m0 m1 m2 m3 m4 m5 m6 state history recorded slots isSaved pad padLength opened pos letter first second)) (va_runV (As := [.int first, .int second]) (rest := []) ⟨hx, hb, hml, hown, hts⟩ (mX8_whyNoCopy l dC dI cyI cyO m0 m1 m2 m3 m4 m5 m6 state history recorded slots isSaved pad padLength opened pos letter first second first second _ q16 e17) (cwV 2 hts (gV ml_X8_126 im_X8_whyNoCopy se_X8_whyNoCopy in_X8 co_X8_whyNoCopy) rfl rfl rfl (by decide +kernel) ⟨Nat.le_of_ble_eq_true rfl, Nat.le_of_ble_eq_true rfl⟩) (cP_V hK hP hD [0, 1, 2, 3, 4, 5, 6] rfl rfl 0 rfl rfl) rfl rfl hl.1 rfl (lv_room (Nat.le_of_ble_eq_true rfl)) dX8_whyNotDone_110 ⟨Nat.zero_le _, Nat.zero_le _⟩) hP hD hS hA [0, 1, 2, 3, 4, 5, 6] rfl (fun H locs hP hS => ?_)
            obtain rfl := Option.some.inj h
            exact e_i hx hb hr hlocks hP hS dX8_whyNotDone_113

noncomputable def fX8_does (state : Nat → Int32) (letter : Int32) (first : Int32) (second : Int32) : Option ((Nat → Int32)) :=
  (if letter = 98 then ((fX8_makeBox state first).bind fun q2 => (some q2.2)) else (if letter = 107 then ((fX8_makeKey state first).bind fun q5 => (some q5.2)) else (if letter = 114 then ((fX8_renewed state first).bind fun q8 => (some q8.2)) else (if letter = 120 then ((fX8_keyThrown state first).bind fun q11 => (some q11.2)) else (if letter = 121 then ((fX8_boxThrown state first).bind fun q14 => (some q14.2)) else ((fX8_copied state first second).bind fun q16 => (some q16.2)))))))
set_option maxHeartbeats 1000000 in
set_option maxRecDepth 100000 in
theorem mX8_does (l : Launch) (dC : Nat → ClassId) (dI : Nat → Nat → Nat) (cyI cyO : ClassId) (m0 m1 m2 m3 m4 m5 m6 : Nat) (state : Nat → Int32) (history : Nat → Int32) (recorded : Int32) (slots : Nat → Int32) (isSaved : Nat → Int32) (pad : Nat → Int32) (padLength : Int32) (opened : Nat → Int32) (pos : Int32) (letter : Int32) (first : Int32) (second : Int32)  (sz : Nat) (res : (Nat → Int32)) (h : fX8_does state letter first second = some res) : Met l yX8_does (wsG yX8_does cX8_does 1 none) ({ frames := 6, cells := 0, slots := 0, locals := 135 }) (cP dC dI cyI cyO sz [.ref m0] (modelW cyI m0 m1 m2 m3 m4 m5 m6 state history recorded slots isSaved pad padLength opened pos letter first second)) (cV dC dI (modelW cyI m0 m1 m2 m3 m4 m5 m6 res history recorded slots isSaved pad padLength opened pos letter first second) (va_A (modelW cyI m0 m1 m2 m3 m4 m5 m6 state history recorded slots isSaved pad padLength opened pos letter first second) sz)) 0 0 (va_A (modelW cyI m0 m1 m2 m3 m4 m5 m6 state history recorded slots isSaved pad padLength opened pos letter first second) sz) := by
  refine Met.ofW (cc := cX8_does) (maxL := 1) (ret := none) (by decide) rfl ?_
  intro p e s m args below meth c s₁ B hml hv
  obtain ⟨rfl, hsz, hP, hK, hD0⟩ := hv
  have hx := B.exec
  have hb := B.bytes
  have hr := B.returns
  have hts := atoms_spec (ws := wsG yX8_does cX8_does 1 none) B.pre
  have hown : s.vm.findClass RX8 = some m.cls := findClass_of_methodNamed B.named
  have hlocks := B.notSynchronized
  subst hsz
  have hD := hD0.self (sz := s.heap.size)
  generalize hAe : va_A (modelW cyI m0 m1 m2 m3 m4 m5 m6 state history recorded slots isSaved pad padLength opened pos letter first second) s.heap.size = A at hD ⊢
  have hA : ∀ q : Nat, s.heap.size ≤ q → A q := fun q h => by rw [← hAe]; exact Or.inr h
  have hS : va_S A s.heap s.heap [] := va_S.rf
  have hl := lv_entry ([.ref m0]) (n := 1) (Nat.le_of_ble_eq_true rfl)
  rw [lg_entry_eq]
  generalize (lg_sl ([.ref m0]) ++ List.replicate (1 - (lg_sl ([.ref m0])).length) Slot.unset).toArray = ls at hl ⊢
  have hl : lv_has ls 1 [(0, .ref m0)] := hl
  unfold fX8_does at h
  refine lv_aload_n hx hb dX8_does_0 rfl (lv_at hl 0 rfl) ?_
  refine va_get (D := (dC, dI)) (ci := 8) (v := .int letter) (C := RX8) (T := TX8) (N := 12) hx hb hts (fun w h9 => gb_mem (lay_X8 w h9)) hown hK.1 hP 0 rfl rfl 9 (by decide) (hts _ (gb_mem fl_X8_221)) (fun _ h9 => h9) rfl dX8_does_1 ?_
  by_cases c1 : letter = 98
  · have h := (if_pos c1).symm.trans h
    refine lv_lookup (off := 64) (tgt := 68) hx hb dX8_does_4 (by decide) (by rw [c1]; first | done | rfl) (by decide) ?_
    refine lv_aload_n hx hb dX8_does_68 rfl (lv_at hl 0 rfl) ?_
    refine lv_aload_n hx hb dX8_does_69 rfl (lv_at hl 0 rfl) ?_
    refine va_get (D := (dC, dI)) (ci := 8) (v := .int first) (C := RX8) (T := TX8) (N := 12) hx hb hts (fun w h9 => gb_mem (lay_X8 w h9)) hown hK.1 hP 0 rfl rfl 10 (by decide) (hts _ (gb_mem fl_X8_230)) (fun _ h9 => h9) rfl dX8_does_70 ?_
    obtain ⟨q2, e3, h⟩ := ob h
    refine fr_i (M := (modelW cyI m0 m1 m2 m3 m4 m5 m6 state history recorded slots isSaved pad padLength opened pos letter first second)) (M' := (modelW cyI m0 m1 m2 m3 m4 m5 m6 q2.2 history recorded slots isSaved pad padLength opened pos letter first second)) (L' := (modelW cyI m0 m1 m2 m3 m4 m5 m6 q2.2 history recorded slots isSaved pad padLength opened pos letter first second)) (va_runV (As := [.int first]) (rest := []) ⟨hx, hb, hml, hown, hts⟩ (mX8_makeBox l dC dI cyI cyO m0 m1 m2 m3 m4 m5 m6 state history recorded slots isSaved pad padLength opened pos letter first second first _ q2 e3) (cwV 1 hts (gV ml_X8_123 im_X8_makeBox se_X8_makeBox in_X8 co_X8_makeBox) rfl rfl rfl (by decide +kernel) ⟨Nat.le_of_ble_eq_true rfl, Nat.le_of_ble_eq_true rfl⟩) (cP_V hK hP hD [0, 1, 2, 3, 4, 5, 6] rfl rfl 0 rfl rfl) rfl rfl hl.1 rfl (lv_room (Nat.le_of_ble_eq_true rfl)) dX8_does_73 ⟨Nat.zero_le _, Nat.zero_le _⟩) hP hD hS hA [0, 1, 2, 3, 4, 5, 6] rfl [(true, 0), (true, 1), (true, 2), (true, 3), (true, 4), (true, 5), (true, 6)] rfl rfl rfl (fun H locs hP hD hS => ?_)
    refine lv_pop hx hb dX8_does_76 rfl ?_
    refine lv_goto (tgt := 129) hx hb dX8_does_77 (by decide) ?_
    obtain rfl := Option.some.inj h
    exact e_v hx hb hr hlocks hP hS dX8_does_129
  · have h := (if_neg c1).symm.trans h
    by_cases c4 : letter = 107
    · have h := (if_pos c4).symm.trans h
      refine lv_lookup (off := 52) (tgt := 56) hx hb dX8_does_4 (by decide) (by rw [c4]; first | done | rfl) (by decide) ?_
      refine lv_aload_n hx hb dX8_does_56 rfl (lv_at hl 0 rfl) ?_
      refine lv_aload_n hx hb dX8_does_57 rfl (lv_at hl 0 rfl) ?_
      refine va_get (D := (dC, dI)) (ci := 8) (v := .int first) (C := RX8) (T := TX8) (N := 12) hx hb hts (fun w h9 => gb_mem (lay_X8 w h9)) hown hK.1 hP 0 rfl rfl 10 (by decide) (hts _ (gb_mem fl_X8_230)) (fun _ h9 => h9) rfl dX8_does_58 ?_
      obtain ⟨q5, e6, h⟩ := ob h
      refine fr_i (M := (modelW cyI m0 m1 m2 m3 m4 m5 m6 state history recorded slots isSaved pad padLength opened pos letter first second)) (M' := (modelW cyI m0 m1 m2 m3 m4 m5 m6 q5.2 history recorded slots isSaved pad padLength opened pos letter first second)) (L' := (modelW cyI m0 m1 m2 m3 m4 m5 m6 q5.2 history recorded slots isSaved pad padLength opened pos letter first second)) (va_runV (As := [.int first]) (rest := []) ⟨hx, hb, hml, hown, hts⟩ (mX8_makeKey l dC dI cyI cyO m0 m1 m2 m3 m4 m5 m6 state history recorded slots isSaved pad padLength opened pos letter first second first _ q5 e6) (cwV 1 hts (gV ml_X8_114 im_X8_makeKey se_X8_makeKey in_X8 co_X8_makeKey) rfl rfl rfl (by decide +kernel) ⟨Nat.le_of_ble_eq_true rfl, Nat.le_of_ble_eq_true rfl⟩) (cP_V hK hP hD [0, 1, 2, 3, 4, 5, 6] rfl rfl 0 rfl rfl) rfl rfl hl.1 rfl (lv_room (Nat.le_of_ble_eq_true rfl)) dX8_does_61 ⟨Nat.zero_le _, Nat.zero_le _⟩) hP hD hS hA [0, 1, 2, 3, 4, 5, 6] rfl [(true, 0), (true, 1), (true, 2), (true, 3), (true, 4), (true, 5), (true, 6)] rfl rfl rfl (fun H locs hP hD hS => ?_)
      refine lv_pop hx hb dX8_does_64 rfl ?_
      refine lv_goto (tgt := 129) hx hb dX8_does_65 (by decide) ?_
      obtain rfl := Option.some.inj h
      exact e_v hx hb hr hlocks hP hS dX8_does_129
    · have h := (if_neg c4).symm.trans h
      by_cases c7 : letter = 114
      · have h := (if_pos c7).symm.trans h
        refine lv_lookup (off := 76) (tgt := 80) hx hb dX8_does_4 (by decide) (by rw [c7]; first | done | rfl) (by decide) ?_
        refine lv_aload_n hx hb dX8_does_80 rfl (lv_at hl 0 rfl) ?_
        refine lv_aload_n hx hb dX8_does_81 rfl (lv_at hl 0 rfl) ?_
        refine va_get (D := (dC, dI)) (ci := 8) (v := .int first) (C := RX8) (T := TX8) (N := 12) hx hb hts (fun w h9 => gb_mem (lay_X8 w h9)) hown hK.1 hP 0 rfl rfl 10 (by decide) (hts _ (gb_mem fl_X8_230)) (fun _ h9 => h9) rfl dX8_does_82 ?_
        obtain ⟨q8, e9, h⟩ := ob h
        refine fr_i (M := (modelW cyI m0 m1 m2 m3 m4 m5 m6 state history recorded slots isSaved pad padLength opened pos letter first second)) (M' := (modelW cyI m0 m1 m2 m3 m4 m5 m6 q8.2 history recorded slots isSaved pad padLength opened pos letter first second)) (L' := (modelW cyI m0 m1 m2 m3 m4 m5 m6 q8.2 history recorded slots isSaved pad padLength opened pos letter first second)) (va_runV (As := [.int first]) (rest := []) ⟨hx, hb, hml, hown, hts⟩ (mX8_renewed l dC dI cyI cyO m0 m1 m2 m3 m4 m5 m6 state history recorded slots isSaved pad padLength opened pos letter first second first _ q8 e9) (cwV 1 hts (gV ml_X8_150 im_X8_renewed se_X8_renewed in_X8 co_X8_renewed) rfl rfl rfl (by decide +kernel) ⟨Nat.le_of_ble_eq_true rfl, Nat.le_of_ble_eq_true rfl⟩) (cP_V hK hP hD [0, 1, 2, 3, 4, 5, 6] rfl rfl 0 rfl rfl) rfl rfl hl.1 rfl (lv_room (Nat.le_of_ble_eq_true rfl)) dX8_does_85 ⟨Nat.zero_le _, Nat.zero_le _⟩) hP hD hS hA [0, 1, 2, 3, 4, 5, 6] rfl [(true, 0), (true, 1), (true, 2), (true, 3), (true, 4), (true, 5), (true, 6)] rfl rfl rfl (fun H locs hP hD hS => ?_)
        refine lv_pop hx hb dX8_does_88 rfl ?_
        refine lv_goto (tgt := 129) hx hb dX8_does_89 (by decide) ?_
        obtain rfl := Option.some.inj h
        exact e_v hx hb hr hlocks hP hS dX8_does_129
      · have h := (if_neg c7).symm.trans h
        by_cases c10 : letter = 120
        · have h := (if_pos c10).symm.trans h
          refine lv_lookup (off := 88) (tgt := 92) hx hb dX8_does_4 (by decide) (by rw [c10]; first | done | rfl) (by decide) ?_
          refine lv_aload_n hx hb dX8_does_92 rfl (lv_at hl 0 rfl) ?_
          refine lv_aload_n hx hb dX8_does_93 rfl (lv_at hl 0 rfl) ?_
          refine va_get (D := (dC, dI)) (ci := 8) (v := .int first) (C := RX8) (T := TX8) (N := 12) hx hb hts (fun w h9 => gb_mem (lay_X8 w h9)) hown hK.1 hP 0 rfl rfl 10 (by decide) (hts _ (gb_mem fl_X8_230)) (fun _ h9 => h9) rfl dX8_does_94 ?_
          obtain ⟨q11, e12, h⟩ := ob h
          refine fr_i (M := (modelW cyI m0 m1 m2 m3 m4 m5 m6 state history recorded slots isSaved pad padLength opened pos letter first second)) (M' := (modelW cyI m0 m1 m2 m3 m4 m5 m6 q11.2 history recorded slots isSaved pad padLength opened pos letter first second)) (L' := (modelW cyI m0 m1 m2 m3 m4 m5 m6 q11.2 history recorded slots isSaved pad padLength opened pos letter first second)) (va_runV (As := [.int first]) (rest := []) ⟨hx, hb, hml, hown, hts⟩ (mX8_keyThrown l dC dI cyI cyO m0 m1 m2 m3 m4 m5 m6 state history recorded slots isSaved pad padLength opened pos letter first second first _ q11 e12) (cwV 1 hts (gV ml_X8_174 im_X8_keyThrown se_X8_keyThrown in_X8 co_X8_keyThrown) rfl rfl rfl (by decide +kernel) ⟨Nat.le_of_ble_eq_true rfl, Nat.le_of_ble_eq_true rfl⟩) (cP_V hK hP hD [0, 1, 2, 3, 4, 5, 6] rfl rfl 0 rfl rfl) rfl rfl hl.1 rfl (lv_room (Nat.le_of_ble_eq_true rfl)) dX8_does_97 ⟨Nat.zero_le _, Nat.zero_le _⟩) hP hD hS hA [0, 1, 2, 3, 4, 5, 6] rfl [(true, 0), (true, 1), (true, 2), (true, 3), (true, 4), (true, 5), (true, 6)] rfl rfl rfl (fun H locs hP hD hS => ?_)
          refine lv_pop hx hb dX8_does_100 rfl ?_
          refine lv_goto (tgt := 129) hx hb dX8_does_101 (by decide) ?_
          obtain rfl := Option.some.inj h
          exact e_v hx hb hr hlocks hP hS dX8_does_129
        · have h := (if_neg c10).symm.trans h
          by_cases c13 : letter = 121
          · have h := (if_pos c13).symm.trans h
            refine lv_lookup (off := 100) (tgt := 104) hx hb dX8_does_4 (by decide) (by rw [c13]; first | done | rfl) (by decide) ?_
            refine lv_aload_n hx hb dX8_does_104 rfl (lv_at hl 0 rfl) ?_
            refine lv_aload_n hx hb dX8_does_105 rfl (lv_at hl 0 rfl) ?_
            refine va_get (D := (dC, dI)) (ci := 8) (v := .int first) (C := RX8) (T := TX8) (N := 12) hx hb hts (fun w h9 => gb_mem (lay_X8 w h9)) hown hK.1 hP 0 rfl rfl 10 (by decide) (hts _ (gb_mem fl_X8_230)) (fun _ h9 => h9) rfl dX8_does_106 ?_
            obtain ⟨q14, e15, h⟩ := ob h
            refine fr_i (M := (modelW cyI m0 m1 m2 m3 m4 m5 m6 state history recorded slots isSaved pad padLength opened pos letter first second)) (M' := (modelW cyI m0 m1 m2 m3 m4 m5 m6 q14.2 history recorded slots isSaved pad padLength opened pos letter first second)) (L' := (modelW cyI m0 m1 m2 m3 m4 m5 m6 q14.2 history recorded slots isSaved pad padLength opened pos letter first second)) (va_runV (As := [.int first]) (rest := []) ⟨hx, hb, hml, hown, hts⟩ (mX8_boxThrown l dC dI cyI cyO m0 m1 m2 m3 m4 m5 m6 state history recorded slots isSaved pad padLength opened pos letter first second first _ q14 e15) (cwV 1 hts (gV ml_X8_183 im_X8_boxThrown se_X8_boxThrown in_X8 co_X8_boxThrown) rfl rfl rfl (by decide +kernel) ⟨Nat.le_of_ble_eq_true rfl, Nat.le_of_ble_eq_true rfl⟩) (cP_V hK hP hD [0, 1, 2, 3, 4, 5, 6] rfl rfl 0 rfl rfl) rfl rfl hl.1 rfl (lv_room (Nat.le_of_ble_eq_true rfl)) dX8_does_109 ⟨Nat.zero_le _, Nat.zero_le _⟩) hP hD hS hA [0, 1, 2, 3, 4, 5, 6] rfl [(true, 0), (true, 1), (true, 2), (true, 3), (true, 4), (true, 5), (true, 6)] rfl rfl rfl (fun H locs hP hD hS => ?_)
            refine lv_pop hx hb dX8_does_112 rfl ?_
            refine lv_goto (tgt := 129) hx hb dX8_does_113 (by decide) ?_
            obtain rfl := Option.some.inj h
            exact e_v hx hb hr hlocks hP hS dX8_does_129
          · have h := (if_neg c13).symm.trans h
            refine lv_lookup (off := 112) (tgt := 116) hx hb dX8_does_4 (by decide) ((lv_osw (a := 98) c1 (by decide)).trans ((lv_osw (a := 107) c4 (by decide)).trans ((lv_osw (a := 114) c7 (by decide)).trans ((lv_osw (a := 120) c10 (by decide)).trans ((lv_osw (a := 121) c13 (by decide)).trans (rfl)))))) (by decide) ?_
            refine lv_aload_n hx hb dX8_does_116 rfl (lv_at hl 0 rfl) ?_
            refine lv_aload_n hx hb dX8_does_117 rfl (lv_at hl 0 rfl) ?_
            refine va_get (D := (dC, dI)) (ci := 8) (v := .int first) (C := RX8) (T := TX8) (N := 12) hx hb hts (fun w h9 => gb_mem (lay_X8 w h9)) hown hK.1 hP 0 rfl rfl 10 (by decide) (hts _ (gb_mem fl_X8_230)) (fun _ h9 => h9) rfl dX8_does_118 ?_
            refine lv_aload_n hx hb dX8_does_121 rfl (lv_at hl 0 rfl) ?_
            refine va_get (D := (dC, dI)) (ci := 8) (v := .int second) (C := RX8) (T := TX8) (N := 12) hx hb hts (fun w h9 => gb_mem (lay_X8 w h9)) hown hK.1 hP 0 rfl rfl 11 (by decide) (hts _ (gb_mem fl_X8_236)) (fun _ h9 => h9) rfl dX8_does_122 ?_
            obtain ⟨q16, e17, h⟩ := ob h
            refine fr_i (M := (modelW cyI m0 m1 m2 m3 m4 m5 m6 state history recorded slots isSaved pad padLength opened pos letter first second)) (M' := (modelW cyI m0 m1 m2 m3 m4 m5 m6 q16.2 history recorded slots isSaved pad padLength opened pos letter first second)) (L' := (modelW cyI m0 m1 m2 m3 m4 m5 m6 q16.2 history recorded slots isSaved pad padLength opened pos letter first second)) (va_runV (As := [.int first, .int second]) (rest := []) ⟨hx, hb, hml, hown, hts⟩ (mX8_copied l dC dI cyI cyO m0 m1 m2 m3 m4 m5 m6 state history recorded slots isSaved pad padLength opened pos letter first second first second _ q16 e17) (cwV 2 hts (gV ml_X8_129 im_X8_copied se_X8_copied in_X8 co_X8_copied) rfl rfl rfl (by decide +kernel) ⟨Nat.le_of_ble_eq_true rfl, Nat.le_of_ble_eq_true rfl⟩) (cP_V hK hP hD [0, 1, 2, 3, 4, 5, 6] rfl rfl 0 rfl rfl) rfl rfl hl.1 rfl (lv_room (Nat.le_of_ble_eq_true rfl)) dX8_does_125 ⟨Nat.zero_le _, Nat.zero_le _⟩) hP hD hS hA [0, 1, 2, 3, 4, 5, 6] rfl [(true, 0), (true, 1), (true, 2), (true, 3), (true, 4), (true, 5), (true, 6)] rfl rfl rfl (fun H locs hP hD hS => ?_)
            refine lv_pop hx hb dX8_does_128 rfl ?_
            obtain rfl := Option.some.inj h
            exact e_v hx hb hr hlocks hP hS dX8_does_129
noncomputable def fX8_carryOut_b25 : Nat → (Nat → Int32) → (Nat → Int32) → Int32 → (Nat → Int32) → Int32 → Int32 → Int32 → Int32 → Int32 → Int32 → Int32 → Option (Int32 × (Nat → Int32) × (Nat → Int32) × Int32 × Int32 × Int32 × Int32 × Int32 × Int32)
  | 0, _, _, _, _, _, _, _, _, _, _, _ => none
  | fuel + 1, state, history, recorded, pad, padLength, pos, letter, first, second, y1, y2 =>
  (if y2 = 0 then (some (y1, state, history, recorded, 0, pos, letter, first, second)) else (if padLength ≤ pos then (some (y1, state, history, recorded, 0, pos, letter, first, second)) else ((fX8_readsOrder pad padLength pos letter first second).bind fun q3 => ((fX8_takes pad padLength q3.2.1 59).bind fun q5 => ((fX8_whyNotDone state q3.2.2.1 q3.2.2.2.1 q3.2.2.2.2).bind fun q7 => (if q7 = 0 then ((fX8_does state q3.2.2.1 q3.2.2.2.1 q3.2.2.2.2).bind fun q12 => fX8_carryOut_b25 fuel q12 history recorded pad padLength q5.2 q3.2.2.1 q3.2.2.2.1 q3.2.2.2.2 (y1 + 1) 1) else fX8_carryOut_b25 fuel state history recorded pad padLength q5.2 q3.2.2.1 q3.2.2.2.1 q3.2.2.2.2 y1 0))))))

noncomputable def fX8_carryOut (state : Nat → Int32) (history : Nat → Int32) (recorded : Int32) (pad : Nat → Int32) (padLength : Int32) (pos : Int32) (letter : Int32) (first : Int32) (second : Int32) : Option (Int32 × (Nat → Int32) × (Nat → Int32) × Int32 × Int32 × Int32 × Int32 × Int32 × Int32) :=
  ((fX8_findFault pad padLength pos letter first second).bind fun q14 => (if q14.1 = (-6) then ((fX8_record state history recorded).bind fun q17 => fX8_carryOut_b25 6000 state q17.1 q17.2 pad padLength 0 q14.2.2.1 q14.2.2.2.1 q14.2.2.2.2 0 1) else (some ((-3), state, history, recorded, padLength, q14.2.1, q14.2.2.1, q14.2.2.2.1, q14.2.2.2.2))))
set_option maxHeartbeats 1000000 in
set_option maxRecDepth 100000 in
theorem mX8_carryOut (l : Launch) (dC : Nat → ClassId) (dI : Nat → Nat → Nat) (cyI cyO : ClassId) (m0 m1 m2 m3 m4 m5 m6 : Nat) (state : Nat → Int32) (history : Nat → Int32) (recorded : Int32) (slots : Nat → Int32) (isSaved : Nat → Int32) (pad : Nat → Int32) (padLength : Int32) (opened : Nat → Int32) (pos : Int32) (letter : Int32) (first : Int32) (second : Int32)  (sz : Nat) (res : Int32 × (Nat → Int32) × (Nat → Int32) × Int32 × Int32 × Int32 × Int32 × Int32 × Int32) (h : fX8_carryOut state history recorded pad padLength pos letter first second = some res) : Met l yX8_carryOut (wsG yX8_carryOut cX8_carryOut 3 (some .int)) ({ frames := 7, cells := 0, slots := 0, locals := 155 }) (cP dC dI cyI cyO sz [.ref m0] (modelW cyI m0 m1 m2 m3 m4 m5 m6 state history recorded slots isSaved pad padLength opened pos letter first second)) (cI dC dI res.1 (modelW cyI m0 m1 m2 m3 m4 m5 m6 res.2.1 res.2.2.1 res.2.2.2.1 slots isSaved pad res.2.2.2.2.1 opened res.2.2.2.2.2.1 res.2.2.2.2.2.2.1 res.2.2.2.2.2.2.2.1 res.2.2.2.2.2.2.2.2) (va_A (modelW cyI m0 m1 m2 m3 m4 m5 m6 state history recorded slots isSaved pad padLength opened pos letter first second) sz)) 0 0 (va_A (modelW cyI m0 m1 m2 m3 m4 m5 m6 state history recorded slots isSaved pad padLength opened pos letter first second) sz) := by
  refine Met.ofW (cc := cX8_carryOut) (maxL := 3) (ret := (some .int)) (by decide) rfl ?_
  intro p e s m args below meth c s₁ B hml hv
  obtain ⟨rfl, hsz, hP, hK, hD0⟩ := hv
  have hx := B.exec
  have hb := B.bytes
  have hr := B.returns
  have hts := atoms_spec (ws := wsG yX8_carryOut cX8_carryOut 3 (some .int)) B.pre
  have hown : s.vm.findClass RX8 = some m.cls := findClass_of_methodNamed B.named
  have hlocks := B.notSynchronized
  subst hsz
  have hD := hD0.self (sz := s.heap.size)
  generalize hAe : va_A (modelW cyI m0 m1 m2 m3 m4 m5 m6 state history recorded slots isSaved pad padLength opened pos letter first second) s.heap.size = A at hD ⊢
  have hA : ∀ q : Nat, s.heap.size ≤ q → A q := fun q h => by rw [← hAe]; exact Or.inr h
  have hS : va_S A s.heap s.heap [] := va_S.rf
  have kB25 : ∀ (fuel : Nat) (state : Nat → Int32) (history : Nat → Int32) (recorded : Int32) (pad : Nat → Int32) (padLength : Int32) (pos : Int32) (letter : Int32) (first : Int32) (second : Int32) (y1 : Int32) (y2 : Int32), fX8_carryOut_b25 fuel state history recorded pad padLength pos letter first second y1 y2 = some res → ∀ (H : Heap) (locs : List Loc), va_P (dC, dI) vwCl (modelW cyI m0 m1 m2 m3 m4 m5 m6 state history recorded slots isSaved pad padLength opened pos letter first second) H → va_D A (modelW cyI m0 m1 m2 m3 m4 m5 m6 state history recorded slots isSaved pad padLength opened pos letter first second) → va_S A s.heap H locs → ∀ ls : Array Slot, lv_has ls 3 [(0, .ref m0), (1, .int y1), (2, .int y2)] → W p l e (headSpec (wsG yX8_carryOut cX8_carryOut 3 (some .int)) ({ frames := 7, cells := 0, slots := 0, locals := 155 })).room s m (([.ref m0] : List Value).toArray) below meth c H locs 0 0 (MQ below (cI dC dI res.1 (modelW cyI m0 m1 m2 m3 m4 m5 m6 res.2.1 res.2.2.1 res.2.2.2.1 slots isSaved pad res.2.2.2.2.1 opened res.2.2.2.2.2.1 res.2.2.2.2.2.2.1 res.2.2.2.2.2.2.2.1 res.2.2.2.2.2.2.2.2) A) ([.ref m0] : List Value).toArray s 0 0 A) (F0 m 25 ls []) := by
    intro fuel
    induction fuel with
    | zero => intro state history recorded pad padLength pos letter first second y1 y2 h; rw [fX8_carryOut_b25] at h; cases h
    | succ fuel ih =>
      intro state history recorded pad padLength pos letter first second y1 y2 h H locs hP hD hS ls hl
      rw [fX8_carryOut_b25] at h
      refine lv_iload_n hx hb dX8_carryOut_25 rfl (lv_at hl 2 rfl) ?_
      refine lv_if_eq (tgt := 79) hx hb dX8_carryOut_26 (by decide) (fun c1 => ?_) (fun c1 => ?_)
      · have h := (if_pos c1).symm.trans h
        refine lv_aload_n hx hb dX8_carryOut_79 rfl (lv_at hl 0 rfl) ?_
        refine lv_iconst (v := 0) hx hb dX8_carryOut_80 (by decide) ?_
        refine va_put (D := (dC, dI)) (ci := 8) (v := .int 0) (ty := .int) (C := RX8) (T := TX8) (N := 12) hx hb hts (fun w h9 => gb_mem (lay_X8 w h9)) tyX8 tyX8_ok nmX8 hown hK.1 hP hD hS 0 rfl rfl 6 (by decide) (hts _ (gb_mem fl_X8_204)) (fun _ h9 => h9) rfl (by decide +kernel) rfl rfl (Nat.le_of_ble_eq_true rfl) dX8_carryOut_81 (fun H locs hP hD hS => ?_)
        have hP : va_P (dC, dI) vwCl (modelW cyI m0 m1 m2 m3 m4 m5 m6 state history recorded slots isSaved pad 0 opened pos letter first second) H := hP
        have hD : va_D A (modelW cyI m0 m1 m2 m3 m4 m5 m6 state history recorded slots isSaved pad 0 opened pos letter first second) := hD
        refine lv_iload_n hx hb dX8_carryOut_84 rfl (lv_at hl 1 rfl) ?_
        obtain rfl := Option.some.inj h
        exact e_i hx hb hr hlocks hP hS dX8_carryOut_85
      · have h := (if_neg c1).symm.trans h
        refine lv_aload_n hx hb dX8_carryOut_29 rfl (lv_at hl 0 rfl) ?_
        refine va_get (D := (dC, dI)) (ci := 8) (v := .int pos) (C := RX8) (T := TX8) (N := 12) hx hb hts (fun w h9 => gb_mem (lay_X8 w h9)) hown hK.1 hP 0 rfl rfl 8 (by decide) (hts _ (gb_mem fl_X8_215)) (fun _ h9 => h9) rfl dX8_carryOut_30 ?_
        refine lv_aload_n hx hb dX8_carryOut_33 rfl (lv_at hl 0 rfl) ?_
        refine va_get (D := (dC, dI)) (ci := 8) (v := .int padLength) (C := RX8) (T := TX8) (N := 12) hx hb hts (fun w h9 => gb_mem (lay_X8 w h9)) hown hK.1 hP 0 rfl rfl 6 (by decide) (hts _ (gb_mem fl_X8_204)) (fun _ h9 => h9) rfl dX8_carryOut_34 ?_
        refine lv_icmp_ge (tgt := 79) hx hb dX8_carryOut_37 (by decide) (fun c2 => ?_) (fun c2 => ?_)
        · have h := (if_pos c2).symm.trans h
          refine lv_aload_n hx hb dX8_carryOut_79 rfl (lv_at hl 0 rfl) ?_
          refine lv_iconst (v := 0) hx hb dX8_carryOut_80 (by decide) ?_
          refine va_put (D := (dC, dI)) (ci := 8) (v := .int 0) (ty := .int) (C := RX8) (T := TX8) (N := 12) hx hb hts (fun w h9 => gb_mem (lay_X8 w h9)) tyX8 tyX8_ok nmX8 hown hK.1 hP hD hS 0 rfl rfl 6 (by decide) (hts _ (gb_mem fl_X8_204)) (fun _ h9 => h9) rfl (by decide +kernel) rfl rfl (Nat.le_of_ble_eq_true rfl) dX8_carryOut_81 (fun H locs hP hD hS => ?_)
          have hP : va_P (dC, dI) vwCl (modelW cyI m0 m1 m2 m3 m4 m5 m6 state history recorded slots isSaved pad 0 opened pos letter first second) H := hP
          have hD : va_D A (modelW cyI m0 m1 m2 m3 m4 m5 m6 state history recorded slots isSaved pad 0 opened pos letter first second) := hD
          refine lv_iload_n hx hb dX8_carryOut_84 rfl (lv_at hl 1 rfl) ?_
          obtain rfl := Option.some.inj h
          exact e_i hx hb hr hlocks hP hS dX8_carryOut_85
        · have h := (if_neg c2).symm.trans h
          refine lv_aload_n hx hb dX8_carryOut_40 rfl (lv_at hl 0 rfl) ?_
          obtain ⟨q3, e4, h⟩ := ob h
          refine fr_i (M := (modelW cyI m0 m1 m2 m3 m4 m5 m6 state history recorded slots isSaved pad padLength opened pos letter first second)) (M' := (modelW cyI m0 m1 m2 m3 m4 m5 m6 state history recorded slots isSaved pad padLength opened q3.2.1 q3.2.2.1 q3.2.2.2.1 q3.2.2.2.2)) (L' := (modelW cyI m0 m1 m2 m3 m4 m5 m6 state history recorded slots isSaved pad padLength opened q3.2.1 q3.2.2.1 q3.2.2.2.1 q3.2.2.2.2)) (va_runV (As := []) (rest := []) ⟨hx, hb, hml, hown, hts⟩ (mX8_readsOrder l dC dI cyI cyO m0 m1 m2 m3 m4 m5 m6 state history recorded slots isSaved pad padLength opened pos letter first second _ q3 e4) (cwV 0 hts (gV ml_X8_239 im_X8_readsOrder se_X8_readsOrder in_X8 co_X8_readsOrder) rfl rfl rfl (by decide +kernel) ⟨Nat.le_of_ble_eq_true rfl, Nat.le_of_ble_eq_true rfl⟩) (cP_V hK hP hD [0, 1, 2, 3, 4, 5, 6] rfl rfl 0 rfl rfl) rfl rfl hl.1 rfl (lv_room (Nat.le_of_ble_eq_true rfl)) dX8_carryOut_41 ⟨Nat.zero_le _, Nat.zero_le _⟩) hP hD hS hA [0, 1, 2, 3, 4, 5, 6] rfl [(true, 0), (true, 1), (true, 2), (true, 3), (true, 4), (true, 5), (true, 6)] rfl rfl rfl (fun H locs hP hD hS => ?_)
          refine lv_pop hx hb dX8_carryOut_44 rfl ?_
          refine lv_aload_n hx hb dX8_carryOut_45 rfl (lv_at hl 0 rfl) ?_
          refine lv_bipush (v := 59) hx hb dX8_carryOut_46 (by decide) ?_
          obtain ⟨q5, e6, h⟩ := ob h
          refine fr_i (M := (modelW cyI m0 m1 m2 m3 m4 m5 m6 state history recorded slots isSaved pad padLength opened q3.2.1 q3.2.2.1 q3.2.2.2.1 q3.2.2.2.2)) (M' := (modelW cyI m0 m1 m2 m3 m4 m5 m6 state history recorded slots isSaved pad padLength opened q5.2 q3.2.2.1 q3.2.2.2.1 q3.2.2.2.2)) (L' := (modelW cyI m0 m1 m2 m3 m4 m5 m6 state history recorded slots isSaved pad padLength opened q5.2 q3.2.2.1 q3.2.2.2.1 q3.2.2.2.2)) (va_runV (As := [.int 59]) (rest := []) ⟨hx, hb, hml, hown, hts⟩ (mX8_takes l dC dI cyI cyO m0 m1 m2 m3 m4 m5 m6 state history recorded slots isSaved pad padLength opened q3.2.1 q3.2.2.1 q3.2.2.2.1 q3.2.2.2.2 59 _ q5 e6) (cwV 1 hts (gV ml_X8_227 im_X8_takes se_X8_takes in_X8 co_X8_takes) rfl rfl rfl (by decide +kernel) ⟨Nat.le_of_ble_eq_true rfl, Nat.le_of_ble_eq_true rfl⟩) (cP_V hK hP hD [0, 1, 2, 3, 4, 5, 6] rfl rfl 0 rfl rfl) rfl rfl hl.1 rfl (lv_room (Nat.le_of_ble_eq_true rfl)) dX8_carryOut_48 ⟨Nat.zero_le _, Nat.zero_le _⟩) hP hD hS hA [0, 1, 2, 3, 4, 5, 6] rfl [(true, 0), (true, 1), (true, 2), (true, 3), (true, 4), (true, 5), (true, 6)] rfl rfl rfl (fun H locs hP hD hS => ?_)
          refine lv_pop hx hb dX8_carryOut_51 rfl ?_
          refine lv_aload_n hx hb dX8_carryOut_52 rfl (lv_at hl 0 rfl) ?_
          obtain ⟨q7, e8, h⟩ := ob h
          refine fr_ir (M := (modelW cyI m0 m1 m2 m3 m4 m5 m6 state history recorded slots isSaved pad padLength opened q5.2 q3.2.2.1 q3.2.2.2.1 q3.2.2.2.2)) (va_runV (As := []) (rest := []) ⟨hx, hb, hml, hown, hts⟩ (mX8_whyNotDone l dC dI cyI cyO m0 m1 m2 m3 m4 m5 m6 state history recorded slots isSaved pad padLength opened q5.2 q3.2.2.1 q3.2.2.2.1 q3.2.2.2.2 _ q7 e8) (cwV 0 hts (gV ml_X8_246 im_X8_whyNotDone se_X8_whyNotDone in_X8 co_X8_whyNotDone) rfl rfl rfl (by decide +kernel) ⟨Nat.le_of_ble_eq_true rfl, Nat.le_of_ble_eq_true rfl⟩) (cP_V hK hP hD [0, 1, 2, 3, 4, 5, 6] rfl rfl 0 rfl rfl) rfl rfl hl.1 rfl (lv_room (Nat.le_of_ble_eq_true rfl)) dX8_carryOut_53 ⟨Nat.zero_le _, Nat.zero_le _⟩) hP hD hS hA [0, 1, 2, 3, 4, 5, 6] rfl (fun H locs hP hS => ?_)
          refine lv_if_ne (tgt := 63) hx hb dX8_carryOut_56 (by decide) (fun c9 => ?_) (fun c9 => ?_)
          · have h := (if_neg c9).symm.trans h
            refine lv_iconst (v := 0) hx hb dX8_carryOut_63 (by decide) ?_
            refine lv_istore_n (lv' := [(2, .int 0), (0, .ref m0), (1, .int y1)]) hx hb dX8_carryOut_64 rfl hl (by decide) rfl (fun ls hl => ?_)
            refine lv_iload_n hx hb dX8_carryOut_65 rfl (lv_at hl 0 rfl) ?_
            refine lv_if_eq (tgt := 25) hx hb dX8_carryOut_66 (by decide) (fun c10 => ?_) (fun c10 => ?_)
            · exact ih state history recorded pad padLength q5.2 q3.2.2.1 q3.2.2.2.1 q3.2.2.2.2 y1 0 h _ _ hP hD hS ls (lv_sub hl [1, 2, 0] rfl)
            · exact absurd c10 (by decide)
          · have h := (if_pos c9).symm.trans h
            refine lv_iconst (v := 1) hx hb dX8_carryOut_59 (by decide) ?_
            refine lv_goto (tgt := 64) hx hb dX8_carryOut_60 (by decide) ?_
            refine lv_istore_n (lv' := [(2, .int 1), (0, .ref m0), (1, .int y1)]) hx hb dX8_carryOut_64 rfl hl (by decide) rfl (fun ls hl => ?_)
            refine lv_iload_n hx hb dX8_carryOut_65 rfl (lv_at hl 0 rfl) ?_
            refine lv_if_eq (tgt := 25) hx hb dX8_carryOut_66 (by decide) (fun c11 => ?_) (fun c11 => ?_)
            · exact absurd c11 (by decide)
            · refine lv_aload_n hx hb dX8_carryOut_69 rfl (lv_at hl 1 rfl) ?_
              obtain ⟨q12, e13, h⟩ := ob h
              refine fr_v (M := (modelW cyI m0 m1 m2 m3 m4 m5 m6 state history recorded slots isSaved pad padLength opened q5.2 q3.2.2.1 q3.2.2.2.1 q3.2.2.2.2)) (M' := (modelW cyI m0 m1 m2 m3 m4 m5 m6 q12 history recorded slots isSaved pad padLength opened q5.2 q3.2.2.1 q3.2.2.2.1 q3.2.2.2.2)) (L' := (modelW cyI m0 m1 m2 m3 m4 m5 m6 q12 history recorded slots isSaved pad padLength opened q5.2 q3.2.2.1 q3.2.2.2.1 q3.2.2.2.2)) (va_runV (As := []) (rest := []) ⟨hx, hb, hml, hown, hts⟩ (mX8_does l dC dI cyI cyO m0 m1 m2 m3 m4 m5 m6 state history recorded slots isSaved pad padLength opened q5.2 q3.2.2.1 q3.2.2.2.1 q3.2.2.2.2 _ q12 e13) (cwV 0 hts (gV ml_X8_249 im_X8_does se_X8_does in_X8 co_X8_does) rfl rfl rfl (by decide +kernel) ⟨Nat.le_of_ble_eq_true rfl, Nat.le_of_ble_eq_true rfl⟩) (cP_V hK hP hD [0, 1, 2, 3, 4, 5, 6] rfl rfl 0 rfl rfl) rfl rfl hl.1 rfl (lv_room (Nat.le_of_ble_eq_true rfl)) dX8_carryOut_70 ⟨Nat.zero_le _, Nat.zero_le _⟩) hP hD hS hA [0, 1, 2, 3, 4, 5, 6] rfl [(true, 0), (true, 1), (true, 2), (true, 3), (true, 4), (true, 5), (true, 6)] rfl rfl rfl (fun H locs hP hD hS => ?_)
              refine lv_iinc (v := (y1 + 1)) (lv' := [(1, .int (y1 + 1)), (2, .int 1), (0, .ref m0)]) hx hb dX8_carryOut_73 hl (k := 2) rfl rfl (by decide) rfl (fun ls hl => ?_)
              refine lv_goto (tgt := 25) hx hb dX8_carryOut_76 (by decide) ?_
              exact ih q12 history recorded pad padLength q5.2 q3.2.2.1 q3.2.2.2.1 q3.2.2.2.2 (y1 + 1) 1 h _ _ hP hD hS ls (lv_sub hl [2, 0, 1] rfl)
  have hl := lv_entry ([.ref m0]) (n := 3) (Nat.le_of_ble_eq_true rfl)
  rw [lg_entry_eq]
  generalize (lg_sl ([.ref m0]) ++ List.replicate (3 - (lg_sl ([.ref m0])).length) Slot.unset).toArray = ls at hl ⊢
  have hl : lv_has ls 3 [(0, .ref m0)] := hl
  unfold fX8_carryOut at h
  refine lv_aload_n hx hb dX8_carryOut_0 rfl (lv_at hl 0 rfl) ?_
  obtain ⟨q14, e15, h⟩ := ob h
  refine fr_i (M := (modelW cyI m0 m1 m2 m3 m4 m5 m6 state history recorded slots isSaved pad padLength opened pos letter first second)) (M' := (modelW cyI m0 m1 m2 m3 m4 m5 m6 state history recorded slots isSaved pad padLength opened q14.2.1 q14.2.2.1 q14.2.2.2.1 q14.2.2.2.2)) (L' := (modelW cyI m0 m1 m2 m3 m4 m5 m6 state history recorded slots isSaved pad padLength opened q14.2.1 q14.2.2.1 q14.2.2.2.1 q14.2.2.2.2)) (va_runV (As := []) (rest := []) ⟨hx, hb, hml, hown, hts⟩ (mX8_findFault l dC dI cyI cyO m0 m1 m2 m3 m4 m5 m6 state history recorded slots isSaved pad padLength opened pos letter first second _ q14 e15) (cwV 0 hts (gV ml_X8_243 im_X8_findFault se_X8_findFault in_X8 co_X8_findFault) rfl rfl rfl (by decide +kernel) ⟨Nat.le_of_ble_eq_true rfl, Nat.le_of_ble_eq_true rfl⟩) (cP_V hK hP hD [0, 1, 2, 3, 4, 5, 6] rfl rfl 0 rfl rfl) rfl rfl hl.1 rfl (lv_room (Nat.le_of_ble_eq_true rfl)) dX8_carryOut_1 ⟨Nat.zero_le _, Nat.zero_le _⟩) hP hD hS hA [0, 1, 2, 3, 4, 5, 6] rfl [(true, 0), (true, 1), (true, 2), (true, 3), (true, 4), (true, 5), (true, 6)] rfl rfl rfl (fun H locs hP hD hS => ?_)
  refine lv_bipush (v := (-6)) hx hb dX8_carryOut_4 (by decide) ?_
  refine lv_icmp_eq (tgt := 12) hx hb dX8_carryOut_6 (by decide) (fun c16 => ?_) (fun c16 => ?_)
  · have h := (if_pos c16).symm.trans h
    refine lv_aload_n hx hb dX8_carryOut_12 rfl (lv_at hl 0 rfl) ?_
    obtain ⟨q17, e18, h⟩ := ob h
    refine fr_v (M := (modelW cyI m0 m1 m2 m3 m4 m5 m6 state history recorded slots isSaved pad padLength opened q14.2.1 q14.2.2.1 q14.2.2.2.1 q14.2.2.2.2)) (M' := (modelW cyI m0 m1 m2 m3 m4 m5 m6 state q17.1 q17.2 slots isSaved pad padLength opened q14.2.1 q14.2.2.1 q14.2.2.2.1 q14.2.2.2.2)) (L' := (modelW cyI m0 m1 m2 m3 m4 m5 m6 state q17.1 q17.2 slots isSaved pad padLength opened q14.2.1 q14.2.2.1 q14.2.2.2.1 q14.2.2.2.2)) (va_runV (As := []) (rest := []) ⟨hx, hb, hml, hown, hts⟩ (mX8_record l dC dI cyI cyO m0 m1 m2 m3 m4 m5 m6 state history recorded slots isSaved pad padLength opened q14.2.1 q14.2.2.1 q14.2.2.2.1 q14.2.2.2.2 _ q17 e18) (cwV 0 hts (gV ml_X8_102 im_X8_record se_X8_record in_X8 co_X8_record) rfl rfl rfl (by decide +kernel) ⟨Nat.le_of_ble_eq_true rfl, Nat.le_of_ble_eq_true rfl⟩) (cP_V hK hP hD [0, 1, 2, 3, 4, 5, 6] rfl rfl 0 rfl rfl) rfl rfl hl.1 rfl (lv_room (Nat.le_of_ble_eq_true rfl)) dX8_carryOut_13 ⟨Nat.zero_le _, Nat.zero_le _⟩) hP hD hS hA [0, 1, 2, 3, 4, 5, 6] rfl [(true, 0), (true, 1), (true, 2), (true, 3), (true, 4), (true, 5), (true, 6)] rfl rfl rfl (fun H locs hP hD hS => ?_)
    refine lv_iconst (v := 0) hx hb dX8_carryOut_16 (by decide) ?_
    refine lv_istore_n (lv' := [(1, .int 0), (0, .ref m0)]) hx hb dX8_carryOut_17 rfl hl (by decide) rfl (fun ls hl => ?_)
    refine lv_aload_n hx hb dX8_carryOut_18 rfl (lv_at hl 1 rfl) ?_
    refine lv_iconst (v := 0) hx hb dX8_carryOut_19 (by decide) ?_
    refine va_put (D := (dC, dI)) (ci := 8) (v := .int 0) (ty := .int) (C := RX8) (T := TX8) (N := 12) hx hb hts (fun w h9 => gb_mem (lay_X8 w h9)) tyX8 tyX8_ok nmX8 hown hK.1 hP hD hS 0 rfl rfl 8 (by decide) (hts _ (gb_mem fl_X8_215)) (fun _ h9 => h9) rfl (by decide +kernel) rfl rfl (Nat.le_of_ble_eq_true rfl) dX8_carryOut_20 (fun H locs hP hD hS => ?_)
    have hP : va_P (dC, dI) vwCl (modelW cyI m0 m1 m2 m3 m4 m5 m6 state q17.1 q17.2 slots isSaved pad padLength opened 0 q14.2.2.1 q14.2.2.2.1 q14.2.2.2.2) H := hP
    have hD : va_D A (modelW cyI m0 m1 m2 m3 m4 m5 m6 state q17.1 q17.2 slots isSaved pad padLength opened 0 q14.2.2.1 q14.2.2.2.1 q14.2.2.2.2) := hD
    refine lv_iconst (v := 1) hx hb dX8_carryOut_23 (by decide) ?_
    refine lv_istore_n (lv' := [(2, .int 1), (1, .int 0), (0, .ref m0)]) hx hb dX8_carryOut_24 rfl hl (by decide) rfl (fun ls hl => ?_)
    exact kB25 6000 state q17.1 q17.2 pad padLength 0 q14.2.2.1 q14.2.2.2.1 q14.2.2.2.2 0 1 h _ _ hP hD hS ls (lv_sub hl [2, 1, 0] rfl)
  · have h := (if_neg c16).symm.trans h
    refine lv_bipush (v := (-3)) hx hb dX8_carryOut_9 (by decide) ?_
    obtain rfl := Option.some.inj h
    exact e_i hx hb hr hlocks hP hS dX8_carryOut_11

noncomputable def fX8_undo (state : Nat → Int32) (history : Nat → Int32) (recorded : Int32) : Option (Int32 × (Nat → Int32) × Int32) :=
  (if recorded = 0 then (some ((-5), state, recorded)) else ((fX8_moves 5064 844 history state ((recorded - 1) * 844) 0).bind fun q2 => (some ((recorded - 1), q2, (recorded - 1)))))
set_option maxHeartbeats 1000000 in
set_option maxRecDepth 100000 in
theorem mX8_undo (l : Launch) (dC : Nat → ClassId) (dI : Nat → Nat → Nat) (cyI cyO : ClassId) (m0 m1 m2 m3 m4 m5 m6 : Nat) (state : Nat → Int32) (history : Nat → Int32) (recorded : Int32) (slots : Nat → Int32) (isSaved : Nat → Int32) (pad : Nat → Int32) (padLength : Int32) (opened : Nat → Int32) (pos : Int32) (letter : Int32) (first : Int32) (second : Int32)  (sz : Nat) (res : Int32 × (Nat → Int32) × Int32) (h : fX8_undo state history recorded = some res) : Met l yX8_undo (wsG yX8_undo cX8_undo 1 (some .int)) ({ frames := 1, cells := 0, slots := 0, locals := 24 }) (cP dC dI cyI cyO sz [.ref m0] (modelW cyI m0 m1 m2 m3 m4 m5 m6 state history recorded slots isSaved pad padLength opened pos letter first second)) (cI dC dI res.1 (modelW cyI m0 m1 m2 m3 m4 m5 m6 res.2.1 history res.2.2 slots isSaved pad padLength opened pos letter first second) (va_A (modelW cyI m0 m1 m2 m3 m4 m5 m6 state history recorded slots isSaved pad padLength opened pos letter first second) sz)) 0 0 (va_A (modelW cyI m0 m1 m2 m3 m4 m5 m6 state history recorded slots isSaved pad padLength opened pos letter first second) sz) := by
  refine Met.ofW (cc := cX8_undo) (maxL := 1) (ret := (some .int)) (by decide) rfl ?_
  intro p e s m args below meth c s₁ B hml hv
  obtain ⟨rfl, hsz, hP, hK, hD0⟩ := hv
  have hx := B.exec
  have hb := B.bytes
  have hr := B.returns
  have hts := atoms_spec (ws := wsG yX8_undo cX8_undo 1 (some .int)) B.pre
  have hown : s.vm.findClass RX8 = some m.cls := findClass_of_methodNamed B.named
  have hlocks := B.notSynchronized
  subst hsz
  have hD := hD0.self (sz := s.heap.size)
  generalize hAe : va_A (modelW cyI m0 m1 m2 m3 m4 m5 m6 state history recorded slots isSaved pad padLength opened pos letter first second) s.heap.size = A at hD ⊢
  have hA : ∀ q : Nat, s.heap.size ≤ q → A q := fun q h => by rw [← hAe]; exact Or.inr h
  have hS : va_S A s.heap s.heap [] := va_S.rf
  have hl := lv_entry ([.ref m0]) (n := 1) (Nat.le_of_ble_eq_true rfl)
  rw [lg_entry_eq]
  generalize (lg_sl ([.ref m0]) ++ List.replicate (1 - (lg_sl ([.ref m0])).length) Slot.unset).toArray = ls at hl ⊢
  have hl : lv_has ls 1 [(0, .ref m0)] := hl
  unfold fX8_undo at h
  refine lv_aload_n hx hb dX8_undo_0 rfl (lv_at hl 0 rfl) ?_
  refine va_get (D := (dC, dI)) (ci := 8) (v := .int recorded) (C := RX8) (T := TX8) (N := 12) hx hb hts (fun w h9 => gb_mem (lay_X8 w h9)) hown hK.1 hP 0 rfl rfl 2 (by decide) (hts _ (gb_mem fl_X8_28)) (fun _ h9 => h9) rfl dX8_undo_1 ?_
  refine lv_if_ne (tgt := 10) hx hb dX8_undo_4 (by decide) (fun c1 => ?_) (fun c1 => ?_)
  · have h := (if_neg c1).symm.trans h
    refine lv_aload_n hx hb dX8_undo_10 rfl (lv_at hl 0 rfl) ?_
    refine lv_dup hx hb dX8_undo_11 rfl ?_
    refine va_get (D := (dC, dI)) (ci := 8) (v := .int recorded) (C := RX8) (T := TX8) (N := 12) hx hb hts (fun w h9 => gb_mem (lay_X8 w h9)) hown hK.1 hP 0 rfl rfl 2 (by decide) (hts _ (gb_mem fl_X8_28)) (fun _ h9 => h9) rfl dX8_undo_12 ?_
    refine lv_iconst (v := 1) hx hb dX8_undo_15 (by decide) ?_
    refine lv_isub hx hb dX8_undo_16 ?_
    refine va_put (D := (dC, dI)) (ci := 8) (v := .int (recorded - 1)) (ty := .int) (C := RX8) (T := TX8) (N := 12) hx hb hts (fun w h9 => gb_mem (lay_X8 w h9)) tyX8 tyX8_ok nmX8 hown hK.1 hP hD hS 0 rfl rfl 2 (by decide) (hts _ (gb_mem fl_X8_28)) (fun _ h9 => h9) rfl (by decide +kernel) rfl rfl (Nat.le_of_ble_eq_true rfl) dX8_undo_17 (fun H locs hP hD hS => ?_)
    have hP : va_P (dC, dI) vwCl (modelW cyI m0 m1 m2 m3 m4 m5 m6 state history (recorded - 1) slots isSaved pad padLength opened pos letter first second) H := hP
    have hD : va_D A (modelW cyI m0 m1 m2 m3 m4 m5 m6 state history (recorded - 1) slots isSaved pad padLength opened pos letter first second) := hD
    refine lv_aload_n hx hb dX8_undo_20 rfl (lv_at hl 0 rfl) ?_
    refine va_get (D := (dC, dI)) (ci := 8) (v := .ref m2) (C := RX8) (T := TX8) (N := 12) hx hb hts (fun w h9 => gb_mem (lay_X8 w h9)) hown hK.1 hP 0 rfl rfl 1 (by decide) (hts _ (gb_mem fl_X8_13)) (fun _ h9 => h9) rfl dX8_undo_21 ?_
    refine lv_aload_n hx hb dX8_undo_24 rfl (lv_at hl 0 rfl) ?_
    refine va_get (D := (dC, dI)) (ci := 8) (v := .int (recorded - 1)) (C := RX8) (T := TX8) (N := 12) hx hb hts (fun w h9 => gb_mem (lay_X8 w h9)) hown hK.1 hP 0 rfl rfl 2 (by decide) (hts _ (gb_mem fl_X8_28)) (fun _ h9 => h9) rfl dX8_undo_25 ?_
    refine lv_sipush (v := 844) hx hb dX8_undo_28 (by decide) ?_
    refine lv_imul hx hb dX8_undo_31 ?_
    refine lv_aload_n hx hb dX8_undo_32 rfl (lv_at hl 0 rfl) ?_
    refine va_get (D := (dC, dI)) (ci := 8) (v := .ref m1) (C := RX8) (T := TX8) (N := 12) hx hb hts (fun w h9 => gb_mem (lay_X8 w h9)) hown hK.1 hP 0 rfl rfl 0 (by decide) (hts _ (gb_mem fl_X8_7)) (fun _ h9 => h9) rfl dX8_undo_33 ?_
    refine lv_iconst (v := 0) hx hb dX8_undo_36 (by decide) ?_
    obtain ⟨q2, e3, h⟩ := ob h
    refine fr_v (M := ((arrW cyI m2 5064 history) ++ (arrW cyI m1 844 state))) (M' := ((arrW cyI m2 5064 history) ++ (arrW cyI m1 844 q2))) (L' := (modelW cyI m0 m1 m2 m3 m4 m5 m6 q2 history (recorded - 1) slots isSaved pad padLength opened pos letter first second)) (va_runS (As := [.ref m2, .int ((recorded - 1) * 844), .ref m1, .int 0]) (rest := []) ⟨hx, hb, hml, hown, hts⟩ (mX8_moves l dC dI cyI cyO m2 m1 5064 844 history state ((recorded - 1) * 844) 0 _ q2 e3) (va_cwS 4 hts (gS ml_X8_32 st_X8_moves in_X8 co_X8_moves) rfl rfl rfl (by decide +kernel) ⟨Nat.le_of_ble_eq_true rfl, Nat.le_of_ble_eq_true rfl⟩) (cP_S hK hP hD [2, 1] rfl rfl) rfl rfl hl.1 rfl (lv_room (Nat.le_of_ble_eq_true rfl)) dX8_undo_37 ⟨Nat.zero_le _, Nat.zero_le _⟩) hP hD hS hA [2, 1] rfl [(false, 0), (true, 1), (true, 0), (false, 3), (false, 4), (false, 5), (false, 6)] rfl rfl rfl (fun H locs hP hD hS => ?_)
    refine lv_aload_n hx hb dX8_undo_40 rfl (lv_at hl 0 rfl) ?_
    refine va_get (D := (dC, dI)) (ci := 8) (v := .int (recorded - 1)) (C := RX8) (T := TX8) (N := 12) hx hb hts (fun w h9 => gb_mem (lay_X8 w h9)) hown hK.1 hP 0 rfl rfl 2 (by decide) (hts _ (gb_mem fl_X8_28)) (fun _ h9 => h9) rfl dX8_undo_41 ?_
    obtain rfl := Option.some.inj h
    exact e_i hx hb hr hlocks hP hS dX8_undo_44
  · have h := (if_pos c1).symm.trans h
    refine lv_bipush (v := (-5)) hx hb dX8_undo_7 (by decide) ?_
    obtain rfl := Option.some.inj h
    exact e_i hx hb hr hlocks hP hS dX8_undo_9

noncomputable def fX8_save (state : Nat → Int32) (slots : Nat → Int32) (isSaved : Nat → Int32) (x1 : Int32) : Option (Int32 × (Nat → Int32) × (Nat → Int32)) :=
  (if (fX8_within x1 0 1) = 0 then (some ((-2), slots, isSaved)) else ((fX8_moves 844 1688 state slots 0 (844 * x1)).bind fun q2 => (if x1 < 0 ∨ 2 ≤ x1.toNatClampNeg then none else (if (1 : Int32) < 0 ∨ 844 ≤ (1 : Int32).toNatClampNeg then none else (some ((state (1 : Int32).toNatClampNeg), q2, (upd isSaved x1.toNatClampNeg 1)))))))
set_option maxHeartbeats 1000000 in
set_option maxRecDepth 100000 in
theorem mX8_save (l : Launch) (dC : Nat → ClassId) (dI : Nat → Nat → Nat) (cyI cyO : ClassId) (m0 m1 m2 m3 m4 m5 m6 : Nat) (state : Nat → Int32) (history : Nat → Int32) (recorded : Int32) (slots : Nat → Int32) (isSaved : Nat → Int32) (pad : Nat → Int32) (padLength : Int32) (opened : Nat → Int32) (pos : Int32) (letter : Int32) (first : Int32) (second : Int32) (x1 : Int32) (sz : Nat) (res : Int32 × (Nat → Int32) × (Nat → Int32)) (h : fX8_save state slots isSaved x1 = some res) : Met l yX8_save (wsG yX8_save cX8_save 2 (some .int)) ({ frames := 1, cells := 0, slots := 0, locals := 24 }) (cP dC dI cyI cyO sz [.ref m0, .int x1] (modelW cyI m0 m1 m2 m3 m4 m5 m6 state history recorded slots isSaved pad padLength opened pos letter first second)) (cI dC dI res.1 (modelW cyI m0 m1 m2 m3 m4 m5 m6 state history recorded res.2.1 res.2.2 pad padLength opened pos letter first second) (va_A (modelW cyI m0 m1 m2 m3 m4 m5 m6 state history recorded slots isSaved pad padLength opened pos letter first second) sz)) 0 0 (va_A (modelW cyI m0 m1 m2 m3 m4 m5 m6 state history recorded slots isSaved pad padLength opened pos letter first second) sz) := by
  refine Met.ofW (cc := cX8_save) (maxL := 2) (ret := (some .int)) (by decide) rfl ?_
  intro p e s m args below meth c s₁ B hml hv
  obtain ⟨rfl, hsz, hP, hK, hD0⟩ := hv
  have hx := B.exec
  have hb := B.bytes
  have hr := B.returns
  have hts := atoms_spec (ws := wsG yX8_save cX8_save 2 (some .int)) B.pre
  have hown : s.vm.findClass RX8 = some m.cls := findClass_of_methodNamed B.named
  have hlocks := B.notSynchronized
  subst hsz
  have hD := hD0.self (sz := s.heap.size)
  generalize hAe : va_A (modelW cyI m0 m1 m2 m3 m4 m5 m6 state history recorded slots isSaved pad padLength opened pos letter first second) s.heap.size = A at hD ⊢
  have hA : ∀ q : Nat, s.heap.size ≤ q → A q := fun q h => by rw [← hAe]; exact Or.inr h
  have hS : va_S A s.heap s.heap [] := va_S.rf
  have hl := lv_entry ([.ref m0, .int x1]) (n := 2) (Nat.le_of_ble_eq_true rfl)
  rw [lg_entry_eq]
  generalize (lg_sl ([.ref m0, .int x1]) ++ List.replicate (2 - (lg_sl ([.ref m0, .int x1])).length) Slot.unset).toArray = ls at hl ⊢
  have hl : lv_has ls 2 [(0, .ref m0), (1, .int x1)] := hl
  unfold fX8_save at h
  refine lv_iload_n hx hb dX8_save_0 rfl (lv_at hl 1 rfl) ?_
  refine lv_iconst (v := 0) hx hb dX8_save_1 (by decide) ?_
  refine lv_iconst (v := 1) hx hb dX8_save_2 (by decide) ?_
  refine fr_ir (M := ([] : va_W)) (va_runS (As := [.int x1, .int 0, .int 1]) (rest := []) ⟨hx, hb, hml, hown, hts⟩ (mX8_within l dC dI cyI cyO x1 0 1 _ (fX8_within x1 0 1) rfl) (va_cwS 3 hts (gS ml_X8_36 st_X8_within in_X8 co_X8_within) rfl rfl rfl (by decide +kernel) ⟨Nat.le_of_ble_eq_true rfl, Nat.le_of_ble_eq_true rfl⟩) (cP_S hK hP hD [] rfl rfl) rfl rfl hl.1 rfl (lv_room (Nat.le_of_ble_eq_true rfl)) dX8_save_3 ⟨Nat.zero_le _, Nat.zero_le _⟩) hP hD hS hA [] rfl (fun H locs hP hS => ?_)
  refine lv_if_ne (tgt := 12) hx hb dX8_save_6 (by decide) (fun c1 => ?_) (fun c1 => ?_)
  · have h := (if_neg c1).symm.trans h
    refine lv_aload_n hx hb dX8_save_12 rfl (lv_at hl 0 rfl) ?_
    refine va_get (D := (dC, dI)) (ci := 8) (v := .ref m1) (C := RX8) (T := TX8) (N := 12) hx hb hts (fun w h9 => gb_mem (lay_X8 w h9)) hown hK.1 hP 0 rfl rfl 0 (by decide) (hts _ (gb_mem fl_X8_7)) (fun _ h9 => h9) rfl dX8_save_13 ?_
    refine lv_iconst (v := 0) hx hb dX8_save_16 (by decide) ?_
    refine lv_aload_n hx hb dX8_save_17 rfl (lv_at hl 0 rfl) ?_
    refine va_get (D := (dC, dI)) (ci := 8) (v := .ref m3) (C := RX8) (T := TX8) (N := 12) hx hb hts (fun w h9 => gb_mem (lay_X8 w h9)) hown hK.1 hP 0 rfl rfl 3 (by decide) (hts _ (gb_mem fl_X8_16)) (fun _ h9 => h9) rfl dX8_save_18 ?_
    refine lv_sipush (v := 844) hx hb dX8_save_21 (by decide) ?_
    refine lv_iload_n hx hb dX8_save_24 rfl (lv_at hl 1 rfl) ?_
    refine lv_imul hx hb dX8_save_25 ?_
    obtain ⟨q2, e3, h⟩ := ob h
    refine fr_v (M := ((arrW cyI m1 844 state) ++ (arrW cyI m3 1688 slots))) (M' := ((arrW cyI m1 844 state) ++ (arrW cyI m3 1688 q2))) (L' := (modelW cyI m0 m1 m2 m3 m4 m5 m6 state history recorded q2 isSaved pad padLength opened pos letter first second)) (va_runS (As := [.ref m1, .int 0, .ref m3, .int (844 * x1)]) (rest := []) ⟨hx, hb, hml, hown, hts⟩ (mX8_moves l dC dI cyI cyO m1 m3 844 1688 state slots 0 (844 * x1) _ q2 e3) (va_cwS 4 hts (gS ml_X8_32 st_X8_moves in_X8 co_X8_moves) rfl rfl rfl (by decide +kernel) ⟨Nat.le_of_ble_eq_true rfl, Nat.le_of_ble_eq_true rfl⟩) (cP_S hK hP hD [1, 3] rfl rfl) rfl rfl hl.1 rfl (lv_room (Nat.le_of_ble_eq_true rfl)) dX8_save_26 ⟨Nat.zero_le _, Nat.zero_le _⟩) hP hD hS hA [1, 3] rfl [(false, 0), (true, 0), (false, 2), (true, 1), (false, 4), (false, 5), (false, 6)] rfl rfl rfl (fun H locs hP hD hS => ?_)
    refine lv_aload_n hx hb dX8_save_29 rfl (lv_at hl 0 rfl) ?_
    refine va_get (D := (dC, dI)) (ci := 8) (v := .ref m4) (C := RX8) (T := TX8) (N := 12) hx hb hts (fun w h9 => gb_mem (lay_X8 w h9)) hown hK.1 hP 0 rfl rfl 4 (by decide) (hts _ (gb_mem fl_X8_19)) (fun _ h9 => h9) rfl dX8_save_30 ?_
    refine lv_iload_n hx hb dX8_save_33 rfl (lv_at hl 1 rfl) ?_
    refine lv_iconst (v := 1) hx hb dX8_save_34 (by decide) ?_
    obtain ⟨ni4, h⟩ := ifn h
    refine va_iast hx hb hK.1 hP hD hS 4 0 rfl rfl ni4 dX8_save_35 (fun H locs hP hD hS => ?_)
    have hP : va_P (dC, dI) vwCl (modelW cyI m0 m1 m2 m3 m4 m5 m6 state history recorded q2 (upd isSaved x1.toNatClampNeg 1) pad padLength opened pos letter first second) H := hP
    have hD : va_D A (modelW cyI m0 m1 m2 m3 m4 m5 m6 state history recorded q2 (upd isSaved x1.toNatClampNeg 1) pad padLength opened pos letter first second) := hD
    refine lv_aload_n hx hb dX8_save_36 rfl (lv_at hl 0 rfl) ?_
    refine va_get (D := (dC, dI)) (ci := 8) (v := .ref m1) (C := RX8) (T := TX8) (N := 12) hx hb hts (fun w h9 => gb_mem (lay_X8 w h9)) hown hK.1 hP 0 rfl rfl 0 (by decide) (hts _ (gb_mem fl_X8_7)) (fun _ h9 => h9) rfl dX8_save_37 ?_
    refine lv_iconst (v := 1) hx hb dX8_save_40 (by decide) ?_
    obtain ⟨ni5, h⟩ := ifn h
    refine va_iald hx hb hK.1 hP 1 0 rfl rfl ni5 dX8_save_41 ?_
    obtain rfl := Option.some.inj h
    exact e_i hx hb hr hlocks hP hS dX8_save_42
  · have h := (if_pos c1).symm.trans h
    refine lv_bipush (v := (-2)) hx hb dX8_save_9 (by decide) ?_
    obtain rfl := Option.some.inj h
    exact e_i hx hb hr hlocks hP hS dX8_save_11

noncomputable def fX8_restore (state : Nat → Int32) (history : Nat → Int32) (recorded : Int32) (slots : Nat → Int32) (isSaved : Nat → Int32) (x1 : Int32) : Option (Int32 × (Nat → Int32) × (Nat → Int32) × Int32) :=
  (if (fX8_within x1 0 1) = 0 then (some ((-2), state, history, recorded)) else (if x1 < 0 ∨ 2 ≤ x1.toNatClampNeg then none else (if (isSaved x1.toNatClampNeg) = 0 then (some ((-5), state, history, recorded)) else ((fX8_record state history recorded).bind fun q4 => ((fX8_moves 1688 844 slots state (844 * x1) 0).bind fun q6 => (if (1 : Int32) < 0 ∨ 844 ≤ (1 : Int32).toNatClampNeg then none else (some ((q6 (1 : Int32).toNatClampNeg), q6, q4.1, q4.2))))))))
set_option maxHeartbeats 1000000 in
set_option maxRecDepth 100000 in
theorem mX8_restore (l : Launch) (dC : Nat → ClassId) (dI : Nat → Nat → Nat) (cyI cyO : ClassId) (m0 m1 m2 m3 m4 m5 m6 : Nat) (state : Nat → Int32) (history : Nat → Int32) (recorded : Int32) (slots : Nat → Int32) (isSaved : Nat → Int32) (pad : Nat → Int32) (padLength : Int32) (opened : Nat → Int32) (pos : Int32) (letter : Int32) (first : Int32) (second : Int32) (x1 : Int32) (sz : Nat) (res : Int32 × (Nat → Int32) × (Nat → Int32) × Int32) (h : fX8_restore state history recorded slots isSaved x1 = some res) : Met l yX8_restore (wsG yX8_restore cX8_restore 2 (some .int)) ({ frames := 2, cells := 0, slots := 0, locals := 45 }) (cP dC dI cyI cyO sz [.ref m0, .int x1] (modelW cyI m0 m1 m2 m3 m4 m5 m6 state history recorded slots isSaved pad padLength opened pos letter first second)) (cI dC dI res.1 (modelW cyI m0 m1 m2 m3 m4 m5 m6 res.2.1 res.2.2.1 res.2.2.2 slots isSaved pad padLength opened pos letter first second) (va_A (modelW cyI m0 m1 m2 m3 m4 m5 m6 state history recorded slots isSaved pad padLength opened pos letter first second) sz)) 0 0 (va_A (modelW cyI m0 m1 m2 m3 m4 m5 m6 state history recorded slots isSaved pad padLength opened pos letter first second) sz) := by
  refine Met.ofW (cc := cX8_restore) (maxL := 2) (ret := (some .int)) (by decide) rfl ?_
  intro p e s m args below meth c s₁ B hml hv
  obtain ⟨rfl, hsz, hP, hK, hD0⟩ := hv
  have hx := B.exec
  have hb := B.bytes
  have hr := B.returns
  have hts := atoms_spec (ws := wsG yX8_restore cX8_restore 2 (some .int)) B.pre
  have hown : s.vm.findClass RX8 = some m.cls := findClass_of_methodNamed B.named
  have hlocks := B.notSynchronized
  subst hsz
  have hD := hD0.self (sz := s.heap.size)
  generalize hAe : va_A (modelW cyI m0 m1 m2 m3 m4 m5 m6 state history recorded slots isSaved pad padLength opened pos letter first second) s.heap.size = A at hD ⊢
  have hA : ∀ q : Nat, s.heap.size ≤ q → A q := fun q h => by rw [← hAe]; exact Or.inr h
  have hS : va_S A s.heap s.heap [] := va_S.rf
  have hl := lv_entry ([.ref m0, .int x1]) (n := 2) (Nat.le_of_ble_eq_true rfl)
  rw [lg_entry_eq]
  generalize (lg_sl ([.ref m0, .int x1]) ++ List.replicate (2 - (lg_sl ([.ref m0, .int x1])).length) Slot.unset).toArray = ls at hl ⊢
  have hl : lv_has ls 2 [(0, .ref m0), (1, .int x1)] := hl
  unfold fX8_restore at h
  refine lv_iload_n hx hb dX8_restore_0 rfl (lv_at hl 1 rfl) ?_
  refine lv_iconst (v := 0) hx hb dX8_restore_1 (by decide) ?_
  refine lv_iconst (v := 1) hx hb dX8_restore_2 (by decide) ?_
  refine fr_ir (M := ([] : va_W)) (va_runS (As := [.int x1, .int 0, .int 1]) (rest := []) ⟨hx, hb, hml, hown, hts⟩ (mX8_within l dC dI cyI cyO x1 0 1 _ (fX8_within x1 0 1) rfl) (va_cwS 3 hts (gS ml_X8_36 st_X8_within in_X8 co_X8_within) rfl rfl rfl (by decide +kernel) ⟨Nat.le_of_ble_eq_true rfl, Nat.le_of_ble_eq_true rfl⟩) (cP_S hK hP hD [] rfl rfl) rfl rfl hl.1 rfl (lv_room (Nat.le_of_ble_eq_true rfl)) dX8_restore_3 ⟨Nat.zero_le _, Nat.zero_le _⟩) hP hD hS hA [] rfl (fun H locs hP hS => ?_)
  refine lv_if_ne (tgt := 12) hx hb dX8_restore_6 (by decide) (fun c1 => ?_) (fun c1 => ?_)
  · have h := (if_neg c1).symm.trans h
    refine lv_aload_n hx hb dX8_restore_12 rfl (lv_at hl 0 rfl) ?_
    refine va_get (D := (dC, dI)) (ci := 8) (v := .ref m4) (C := RX8) (T := TX8) (N := 12) hx hb hts (fun w h9 => gb_mem (lay_X8 w h9)) hown hK.1 hP 0 rfl rfl 4 (by decide) (hts _ (gb_mem fl_X8_19)) (fun _ h9 => h9) rfl dX8_restore_13 ?_
    refine lv_iload_n hx hb dX8_restore_16 rfl (lv_at hl 1 rfl) ?_
    obtain ⟨ni2, h⟩ := ifn h
    refine va_iald hx hb hK.1 hP 4 0 rfl rfl ni2 dX8_restore_17 ?_
    refine lv_if_ne (tgt := 24) hx hb dX8_restore_18 (by decide) (fun c3 => ?_) (fun c3 => ?_)
    · have h := (if_neg c3).symm.trans h
      refine lv_aload_n hx hb dX8_restore_24 rfl (lv_at hl 0 rfl) ?_
      obtain ⟨q4, e5, h⟩ := ob h
      refine fr_v (M := (modelW cyI m0 m1 m2 m3 m4 m5 m6 state history recorded slots isSaved pad padLength opened pos letter first second)) (M' := (modelW cyI m0 m1 m2 m3 m4 m5 m6 state q4.1 q4.2 slots isSaved pad padLength opened pos letter first second)) (L' := (modelW cyI m0 m1 m2 m3 m4 m5 m6 state q4.1 q4.2 slots isSaved pad padLength opened pos letter first second)) (va_runV (As := []) (rest := []) ⟨hx, hb, hml, hown, hts⟩ (mX8_record l dC dI cyI cyO m0 m1 m2 m3 m4 m5 m6 state history recorded slots isSaved pad padLength opened pos letter first second _ q4 e5) (cwV 0 hts (gV ml_X8_102 im_X8_record se_X8_record in_X8 co_X8_record) rfl rfl rfl (by decide +kernel) ⟨Nat.le_of_ble_eq_true rfl, Nat.le_of_ble_eq_true rfl⟩) (cP_V hK hP hD [0, 1, 2, 3, 4, 5, 6] rfl rfl 0 rfl rfl) rfl rfl hl.1 rfl (lv_room (Nat.le_of_ble_eq_true rfl)) dX8_restore_25 ⟨Nat.zero_le _, Nat.zero_le _⟩) hP hD hS hA [0, 1, 2, 3, 4, 5, 6] rfl [(true, 0), (true, 1), (true, 2), (true, 3), (true, 4), (true, 5), (true, 6)] rfl rfl rfl (fun H locs hP hD hS => ?_)
      refine lv_aload_n hx hb dX8_restore_28 rfl (lv_at hl 0 rfl) ?_
      refine va_get (D := (dC, dI)) (ci := 8) (v := .ref m3) (C := RX8) (T := TX8) (N := 12) hx hb hts (fun w h9 => gb_mem (lay_X8 w h9)) hown hK.1 hP 0 rfl rfl 3 (by decide) (hts _ (gb_mem fl_X8_16)) (fun _ h9 => h9) rfl dX8_restore_29 ?_
      refine lv_sipush (v := 844) hx hb dX8_restore_32 (by decide) ?_
      refine lv_iload_n hx hb dX8_restore_35 rfl (lv_at hl 1 rfl) ?_
      refine lv_imul hx hb dX8_restore_36 ?_
      refine lv_aload_n hx hb dX8_restore_37 rfl (lv_at hl 0 rfl) ?_
      refine va_get (D := (dC, dI)) (ci := 8) (v := .ref m1) (C := RX8) (T := TX8) (N := 12) hx hb hts (fun w h9 => gb_mem (lay_X8 w h9)) hown hK.1 hP 0 rfl rfl 0 (by decide) (hts _ (gb_mem fl_X8_7)) (fun _ h9 => h9) rfl dX8_restore_38 ?_
      refine lv_iconst (v := 0) hx hb dX8_restore_41 (by decide) ?_
      obtain ⟨q6, e7, h⟩ := ob h
      refine fr_v (M := ((arrW cyI m3 1688 slots) ++ (arrW cyI m1 844 state))) (M' := ((arrW cyI m3 1688 slots) ++ (arrW cyI m1 844 q6))) (L' := (modelW cyI m0 m1 m2 m3 m4 m5 m6 q6 q4.1 q4.2 slots isSaved pad padLength opened pos letter first second)) (va_runS (As := [.ref m3, .int (844 * x1), .ref m1, .int 0]) (rest := []) ⟨hx, hb, hml, hown, hts⟩ (mX8_moves l dC dI cyI cyO m3 m1 1688 844 slots state (844 * x1) 0 _ q6 e7) (va_cwS 4 hts (gS ml_X8_32 st_X8_moves in_X8 co_X8_moves) rfl rfl rfl (by decide +kernel) ⟨Nat.le_of_ble_eq_true rfl, Nat.le_of_ble_eq_true rfl⟩) (cP_S hK hP hD [3, 1] rfl rfl) rfl rfl hl.1 rfl (lv_room (Nat.le_of_ble_eq_true rfl)) dX8_restore_42 ⟨Nat.zero_le _, Nat.zero_le _⟩) hP hD hS hA [3, 1] rfl [(false, 0), (true, 1), (false, 2), (true, 0), (false, 4), (false, 5), (false, 6)] rfl rfl rfl (fun H locs hP hD hS => ?_)
      refine lv_aload_n hx hb dX8_restore_45 rfl (lv_at hl 0 rfl) ?_
      refine va_get (D := (dC, dI)) (ci := 8) (v := .ref m1) (C := RX8) (T := TX8) (N := 12) hx hb hts (fun w h9 => gb_mem (lay_X8 w h9)) hown hK.1 hP 0 rfl rfl 0 (by decide) (hts _ (gb_mem fl_X8_7)) (fun _ h9 => h9) rfl dX8_restore_46 ?_
      refine lv_iconst (v := 1) hx hb dX8_restore_49 (by decide) ?_
      obtain ⟨ni8, h⟩ := ifn h
      refine va_iald hx hb hK.1 hP 1 0 rfl rfl ni8 dX8_restore_50 ?_
      obtain rfl := Option.some.inj h
      exact e_i hx hb hr hlocks hP hS dX8_restore_51
    · have h := (if_pos c3).symm.trans h
      refine lv_bipush (v := (-5)) hx hb dX8_restore_21 (by decide) ?_
      obtain rfl := Option.some.inj h
      exact e_i hx hb hr hlocks hP hS dX8_restore_23
  · have h := (if_pos c1).symm.trans h
    refine lv_bipush (v := (-2)) hx hb dX8_restore_9 (by decide) ?_
    obtain rfl := Option.some.inj h
    exact e_i hx hb hr hlocks hP hS dX8_restore_11
