/-! Opening -/
noncomputable def fX2_startFromSafe_b11 : Nat → (Nat → Int32) → Int32 → (Nat → Int32) → (Nat → Int32) → Int32 → Option ((Nat → Int32))
  | 0, _, _, _, _, _ => none
  | fuel + 1, startMakes, liveKeys, parents, makes, y2 =>
  (if 20 ≤ y2 then (some startMakes) else (if (fX5_isLiveKey liveKeys y2) = 0 then fX2_startFromSafe_b11 fuel startMakes liveKeys parents makes (y2 + 1) else (if (fX5_isRoot parents y2) = 0 then fX2_startFromSafe_b11 fuel startMakes liveKeys parents makes (y2 + 1) else fX2_startFromSafe_b11 fuel (rSet 20 startMakes y2 (fX5_makeOf makes y2)) liveKeys parents makes (y2 + 1))))

noncomputable def fX2_startFromSafe (startMakes : Nat → Int32) (liveKeys : Int32) (parents : Nat → Int32) (makes : Nat → Int32) : Option ((Nat → Int32)) :=
  fX2_startFromSafe_b11 6000 (rFill 20 startMakes (-6)) liveKeys parents makes 0
set_option maxHeartbeats 1000000 in
set_option maxRecDepth 100000 in
theorem mX2_startFromSafe (l : Launch) (dC : Nat → ClassId) (dI : Nat → Nat → Nat) (cyI cyO cyL : ClassId) (o0 o1 o2 o3 o4 t0 t1 t2 t3 t4 t5 t6 t7 t8 : Nat) (startMakes : Nat → Int32) (opened : Nat → Int32) (mostWear : Int32) (keys : Int32) (boxes : Int32) (liveKeys : Int32) (liveBoxes : Int32) (parents : Nat → Int32) (makes : Nat → Int32) (wears : Nat → Int32) (keysOfBoxes : Nat → Int32)  (sz : Nat) (res : (Nat → Int32)) (h : fX2_startFromSafe startMakes liveKeys parents makes = some res) : Met l yX2_startFromSafe (wsG yX2_startFromSafe cX2_startFromSafe 3 none) ({ frames := 2, cells := 0, slots := 0, locals := 42 }) (cP dC dI cyI cyO cyL sz [.ref o0, .ref t0] ((openW cyI o0 o1 o2 o3 o4 startMakes opened) ++ (treeW cyI t0 t1 t2 t3 t4 t5 t6 t7 t8 mostWear keys boxes liveKeys liveBoxes parents makes wears keysOfBoxes))) (cV dC dI ((openW cyI o0 o1 o2 o3 o4 res opened) ++ (treeW cyI t0 t1 t2 t3 t4 t5 t6 t7 t8 mostWear keys boxes liveKeys liveBoxes parents makes wears keysOfBoxes)) (va_A ((openW cyI o0 o1 o2 o3 o4 startMakes opened) ++ (treeW cyI t0 t1 t2 t3 t4 t5 t6 t7 t8 mostWear keys boxes liveKeys liveBoxes parents makes wears keysOfBoxes)) sz)) 0 0 (va_A ((openW cyI o0 o1 o2 o3 o4 startMakes opened) ++ (treeW cyI t0 t1 t2 t3 t4 t5 t6 t7 t8 mostWear keys boxes liveKeys liveBoxes parents makes wears keysOfBoxes)) sz) := by
  refine Met.ofW (cc := cX2_startFromSafe) (maxL := 3) (ret := none) (by decide) rfl ?_
  intro p e s m args below meth c s₁ B hml hv
  obtain ⟨rfl, hsz, hP, hK, hD0⟩ := hv
  have hx := B.exec
  have hb := B.bytes
  have hr := B.returns
  have hts := atoms_spec (ws := wsG yX2_startFromSafe cX2_startFromSafe 3 none) B.pre
  have hown : s.vm.findClass RX2 = some m.cls := findClass_of_methodNamed B.named
  have hlocks := B.notSynchronized
  subst hsz
  have hD := hD0.self (sz := s.heap.size)
  generalize hAe : va_A ((openW cyI o0 o1 o2 o3 o4 startMakes opened) ++ (treeW cyI t0 t1 t2 t3 t4 t5 t6 t7 t8 mostWear keys boxes liveKeys liveBoxes parents makes wears keysOfBoxes)) s.heap.size = A at hD ⊢
  have hA : ∀ q : Nat, s.heap.size ≤ q → A q := fun q h => by rw [← hAe]; exact Or.inr h
  have hS : va_S A s.heap s.heap [] := va_S.rf
  have kB11 : ∀ (fuel : Nat) (startMakes : Nat → Int32) (liveKeys : Int32) (parents : Nat → Int32) (makes : Nat → Int32) (y2 : Int32), fX2_startFromSafe_b11 fuel startMakes liveKeys parents makes y2 = some res → ∀ (H : Heap) (locs : List Loc), va_P (dC, dI) vwCl ((openW cyI o0 o1 o2 o3 o4 startMakes opened) ++ (treeW cyI t0 t1 t2 t3 t4 t5 t6 t7 t8 mostWear keys boxes liveKeys liveBoxes parents makes wears keysOfBoxes)) H → va_D A ((openW cyI o0 o1 o2 o3 o4 startMakes opened) ++ (treeW cyI t0 t1 t2 t3 t4 t5 t6 t7 t8 mostWear keys boxes liveKeys liveBoxes parents makes wears keysOfBoxes)) → va_S A s.heap H locs → ∀ ls : Array Slot, lv_has ls 3 [(0, .ref o0), (1, .ref t0), (2, .int y2)] → W p l e (headSpec (wsG yX2_startFromSafe cX2_startFromSafe 3 none) ({ frames := 2, cells := 0, slots := 0, locals := 42 })).room s m (([.ref o0, .ref t0] : List Value).toArray) below meth c H locs 0 0 (MQ below (cV dC dI ((openW cyI o0 o1 o2 o3 o4 res opened) ++ (treeW cyI t0 t1 t2 t3 t4 t5 t6 t7 t8 mostWear keys boxes liveKeys liveBoxes parents makes wears keysOfBoxes)) A) ([.ref o0, .ref t0] : List Value).toArray s 0 0 A) (F0 m 11 ls []) := by
    intro fuel
    induction fuel with
    | zero => intro startMakes liveKeys parents makes y2 h; rw [fX2_startFromSafe_b11] at h; cases h
    | succ fuel ih =>
      intro startMakes liveKeys parents makes y2 h H locs hP hD hS ls hl
      rw [fX2_startFromSafe_b11] at h
      refine lv_iload_n hx hb dX2_startFromSafe_11 rfl (lv_at hl 2 rfl) ?_
      refine lv_bipush (v := 20) hx hb dX2_startFromSafe_12 (by decide) ?_
      refine lv_icmp_ge (tgt := 52) hx hb dX2_startFromSafe_14 (by decide) (fun c1 => ?_) (fun c1 => ?_)
      · have h := (if_pos c1).symm.trans h
        obtain rfl := Option.some.inj h
        exact e_v hx hb hr hlocks hP hS dX2_startFromSafe_52
      · have h := (if_neg c1).symm.trans h
        refine lv_aload_n hx hb dX2_startFromSafe_17 rfl (lv_at hl 1 rfl) ?_
        refine lv_iload_n hx hb dX2_startFromSafe_18 rfl (lv_at hl 2 rfl) ?_
        refine fr_ir (M := (treeW cyI t0 t1 t2 t3 t4 t5 t6 t7 t8 mostWear keys boxes liveKeys liveBoxes parents makes wears keysOfBoxes)) (va_runV (As := [.int y2]) (rest := []) ⟨hx, hb, hml, hown, hts⟩ (mX5_isLiveKey l dC dI cyI cyO cyL t0 t1 t2 t3 t4 t5 t6 t7 t8 mostWear keys boxes liveKeys liveBoxes parents makes wears keysOfBoxes y2 _ (fX5_isLiveKey liveKeys y2) rfl) (cwV 1 hts (gV ml_X2_56 im_X5_isLiveKey se_X5_isLiveKey in_X5 co_X5_isLiveKey) rfl rfl rfl (by decide +kernel) ⟨Nat.le_of_ble_eq_true rfl, Nat.le_of_ble_eq_true rfl⟩) (cP_V hK hP hD [5, 6, 7, 8, 9, 10, 11, 12, 13] rfl rfl 5 rfl rfl) rfl rfl hl.1 rfl (lv_room (Nat.le_of_ble_eq_true rfl)) dX2_startFromSafe_19 ⟨Nat.zero_le _, Nat.zero_le _⟩) hP hD hS hA [5, 6, 7, 8, 9, 10, 11, 12, 13] rfl (fun H locs hP hS => ?_)
        refine lv_if_eq (tgt := 46) hx hb dX2_startFromSafe_22 (by decide) (fun c2 => ?_) (fun c2 => ?_)
        · have h := (if_pos c2).symm.trans h
          refine lv_iinc (v := (y2 + 1)) (lv' := [(2, .int (y2 + 1)), (0, .ref o0), (1, .ref t0)]) hx hb dX2_startFromSafe_46 hl (k := 2) rfl rfl (by decide) rfl (fun ls hl => ?_)
          refine lv_goto (tgt := 11) hx hb dX2_startFromSafe_49 (by decide) ?_
          exact ih startMakes liveKeys parents makes (y2 + 1) h _ _ hP hD hS ls (lv_sub hl [1, 2, 0] rfl)
        · have h := (if_neg c2).symm.trans h
          refine lv_aload_n hx hb dX2_startFromSafe_25 rfl (lv_at hl 1 rfl) ?_
          refine lv_iload_n hx hb dX2_startFromSafe_26 rfl (lv_at hl 2 rfl) ?_
          refine fr_ir (M := (treeW cyI t0 t1 t2 t3 t4 t5 t6 t7 t8 mostWear keys boxes liveKeys liveBoxes parents makes wears keysOfBoxes)) (va_runV (As := [.int y2]) (rest := []) ⟨hx, hb, hml, hown, hts⟩ (mX5_isRoot l dC dI cyI cyO cyL t0 t1 t2 t3 t4 t5 t6 t7 t8 mostWear keys boxes liveKeys liveBoxes parents makes wears keysOfBoxes y2 _ (fX5_isRoot parents y2) rfl) (cwV 1 hts (gV ml_X2_62 im_X5_isRoot se_X5_isRoot in_X5 co_X5_isRoot) rfl rfl rfl (by decide +kernel) ⟨Nat.le_of_ble_eq_true rfl, Nat.le_of_ble_eq_true rfl⟩) (cP_V hK hP hD [5, 6, 7, 8, 9, 10, 11, 12, 13] rfl rfl 5 rfl rfl) rfl rfl hl.1 rfl (lv_room (Nat.le_of_ble_eq_true rfl)) dX2_startFromSafe_27 ⟨Nat.zero_le _, Nat.zero_le _⟩) hP hD hS hA [5, 6, 7, 8, 9, 10, 11, 12, 13] rfl (fun H locs hP hS => ?_)
          refine lv_if_eq (tgt := 46) hx hb dX2_startFromSafe_30 (by decide) (fun c3 => ?_) (fun c3 => ?_)
          · have h := (if_pos c3).symm.trans h
            refine lv_iinc (v := (y2 + 1)) (lv' := [(2, .int (y2 + 1)), (0, .ref o0), (1, .ref t0)]) hx hb dX2_startFromSafe_46 hl (k := 2) rfl rfl (by decide) rfl (fun ls hl => ?_)
            refine lv_goto (tgt := 11) hx hb dX2_startFromSafe_49 (by decide) ?_
            exact ih startMakes liveKeys parents makes (y2 + 1) h _ _ hP hD hS ls (lv_sub hl [1, 2, 0] rfl)
          · have h := (if_neg c3).symm.trans h
            refine lv_aload_n hx hb dX2_startFromSafe_33 rfl (lv_at hl 0 rfl) ?_
            refine va_get (D := (dC, dI)) (ci := 2) (v := .ref o1) (C := RX2) (T := TX2) (N := 2) hx hb hts (fun w h9 => gb_mem (lay_X2 w h9)) hown hK.1 hP 0 rfl rfl 0 (by decide) (hts _ (gb_mem fl_X2_14)) (fun _ h9 => h9) rfl dX2_startFromSafe_34 ?_
            refine lv_iload_n hx hb dX2_startFromSafe_37 rfl (lv_at hl 2 rfl) ?_
            refine lv_aload_n hx hb dX2_startFromSafe_38 rfl (lv_at hl 1 rfl) ?_
            refine lv_iload_n hx hb dX2_startFromSafe_39 rfl (lv_at hl 2 rfl) ?_
            refine fr_ir (M := (treeW cyI t0 t1 t2 t3 t4 t5 t6 t7 t8 mostWear keys boxes liveKeys liveBoxes parents makes wears keysOfBoxes)) (va_runV (As := [.int y2]) (rest := [.int y2, .ref o1]) ⟨hx, hb, hml, hown, hts⟩ (mX5_makeOf l dC dI cyI cyO cyL t0 t1 t2 t3 t4 t5 t6 t7 t8 mostWear keys boxes liveKeys liveBoxes parents makes wears keysOfBoxes y2 _ (fX5_makeOf makes y2) rfl) (cwV 1 hts (gV ml_X2_65 im_X5_makeOf se_X5_makeOf in_X5 co_X5_makeOf) rfl rfl rfl (by decide +kernel) ⟨Nat.le_of_ble_eq_true rfl, Nat.le_of_ble_eq_true rfl⟩) (cP_V hK hP hD [5, 6, 7, 8, 9, 10, 11, 12, 13] rfl rfl 5 rfl rfl) rfl rfl hl.1 rfl (lv_room (Nat.le_of_ble_eq_true rfl)) dX2_startFromSafe_40 ⟨Nat.zero_le _, Nat.zero_le _⟩) hP hD hS hA [5, 6, 7, 8, 9, 10, 11, 12, 13] rfl (fun H locs hP hS => ?_)
            refine fr_v (M := (rowW cyI o1 o2 20 startMakes)) (M' := (rowW cyI o1 o2 20 (rSet 20 startMakes y2 (fX5_makeOf makes y2)))) (L' := ((openW cyI o0 o1 o2 o3 o4 (rSet 20 startMakes y2 (fX5_makeOf makes y2)) opened) ++ (treeW cyI t0 t1 t2 t3 t4 t5 t6 t7 t8 mostWear keys boxes liveKeys liveBoxes parents makes wears keysOfBoxes))) (va_runV (As := [.int y2, .int (fX5_makeOf makes y2)]) (rest := []) ⟨hx, hb, hml, hown, hts⟩ (tX4_set l dC dI cyI cyO cyL o1 o2 20 startMakes y2 (fX5_makeOf makes y2) _ (rSet 20 startMakes y2 (fX5_makeOf makes y2)) rfl (by decide)) (cwV 2 hts (gV ml_X2_52 im_X4_set se_X4_set in_X4 co_X4_set) rfl rfl rfl (by decide +kernel) ⟨Nat.le_of_ble_eq_true rfl, Nat.le_of_ble_eq_true rfl⟩) (cP_V hK hP hD [1, 2] rfl rfl 1 rfl rfl) rfl rfl hl.1 rfl (lv_room (Nat.le_of_ble_eq_true rfl)) dX2_startFromSafe_43 ⟨Nat.zero_le _, Nat.zero_le _⟩) hP hD hS hA [1, 2] rfl [(false, 0), (true, 0), (true, 1), (false, 3), (false, 4), (false, 5), (false, 6), (false, 7), (false, 8), (false, 9), (false, 10), (false, 11), (false, 12), (false, 13)] rfl rfl rfl (fun H locs hP hD hS => ?_)
            refine lv_iinc (v := (y2 + 1)) (lv' := [(2, .int (y2 + 1)), (0, .ref o0), (1, .ref t0)]) hx hb dX2_startFromSafe_46 hl (k := 2) rfl rfl (by decide) rfl (fun ls hl => ?_)
            refine lv_goto (tgt := 11) hx hb dX2_startFromSafe_49 (by decide) ?_
            exact ih (rSet 20 startMakes y2 (fX5_makeOf makes y2)) liveKeys parents makes (y2 + 1) h _ _ hP hD hS ls (lv_sub hl [1, 2, 0] rfl)
  have hl := lv_entry ([.ref o0, .ref t0]) (n := 3) (Nat.le_of_ble_eq_true rfl)
  rw [lg_entry_eq]
  generalize (lg_sl ([.ref o0, .ref t0]) ++ List.replicate (3 - (lg_sl ([.ref o0, .ref t0])).length) Slot.unset).toArray = ls at hl ⊢
  have hl : lv_has ls 3 [(0, .ref o0), (1, .ref t0)] := hl
  unfold fX2_startFromSafe at h
  refine lv_aload_n hx hb dX2_startFromSafe_0 rfl (lv_at hl 0 rfl) ?_
  refine va_get (D := (dC, dI)) (ci := 2) (v := .ref o1) (C := RX2) (T := TX2) (N := 2) hx hb hts (fun w h9 => gb_mem (lay_X2 w h9)) hown hK.1 hP 0 rfl rfl 0 (by decide) (hts _ (gb_mem fl_X2_14)) (fun _ h9 => h9) rfl dX2_startFromSafe_1 ?_
  refine lv_bipush (v := (-6)) hx hb dX2_startFromSafe_4 (by decide) ?_
  refine fr_v (M := (rowW cyI o1 o2 20 startMakes)) (M' := (rowW cyI o1 o2 20 (rFill 20 startMakes (-6)))) (L' := ((openW cyI o0 o1 o2 o3 o4 (rFill 20 startMakes (-6)) opened) ++ (treeW cyI t0 t1 t2 t3 t4 t5 t6 t7 t8 mostWear keys boxes liveKeys liveBoxes parents makes wears keysOfBoxes))) (va_runV (As := [.int (-6)]) (rest := []) ⟨hx, hb, hml, hown, hts⟩ (tX4_fill l dC dI cyI cyO cyL o1 o2 20 startMakes (-6) _ (rFill 20 startMakes (-6)) rfl (by decide)) (cwV 1 hts (gV ml_X2_49 im_X4_fill se_X4_fill in_X4 co_X4_fill) rfl rfl rfl (by decide +kernel) ⟨Nat.le_of_ble_eq_true rfl, Nat.le_of_ble_eq_true rfl⟩) (cP_V hK hP hD [1, 2] rfl rfl 1 rfl rfl) rfl rfl hl.1 rfl (lv_room (Nat.le_of_ble_eq_true rfl)) dX2_startFromSafe_6 ⟨Nat.zero_le _, Nat.zero_le _⟩) hP hD hS hA [1, 2] rfl [(false, 0), (true, 0), (true, 1), (false, 3), (false, 4), (false, 5), (false, 6), (false, 7), (false, 8), (false, 9), (false, 10), (false, 11), (false, 12), (false, 13)] rfl rfl rfl (fun H locs hP hD hS => ?_)
  refine lv_iconst (v := 0) hx hb dX2_startFromSafe_9 (by decide) ?_
  refine lv_istore_n (lv' := [(2, .int 0), (0, .ref o0), (1, .ref t0)]) hx hb dX2_startFromSafe_10 rfl hl (by decide) rfl (fun ls hl => ?_)
  exact kB11 6000 (rFill 20 startMakes (-6)) liveKeys parents makes 0 h _ _ hP hD hS ls (lv_sub hl [1, 2, 0] rfl)
noncomputable def fX2_isHad_b17 : Nat → (Nat → Int32) → (Nat → Int32) → Int32 → (Nat → Int32) → (Nat → Int32) → Int32 → Int32 → Int32 → Option (Int32)
  | 0, _, _, _, _, _, _, _, _ => none
  | fuel + 1, startMakes, opened, number, heldKeys, heldWhats, y2, y3, y4 =>
  (if number ≤ y4 then (some 0) else (if (rAt 120 opened y4) = 0 then fX2_isHad_b17 fuel startMakes opened number heldKeys heldWhats y2 y3 (y4 + 1) else (if (fX6_holdsMake heldKeys heldWhats y4 y2 y3) = 0 then fX2_isHad_b17 fuel startMakes opened number heldKeys heldWhats y2 y3 (y4 + 1) else (some 1))))

noncomputable def fX2_isHad (startMakes : Nat → Int32) (opened : Nat → Int32) (number : Int32) (heldKeys : Nat → Int32) (heldWhats : Nat → Int32) (x2 : Int32) (x3 : Int32) : Option (Int32) :=
  (if (rAt 20 startMakes x2) = x3 then (some 1) else fX2_isHad_b17 6000 startMakes opened number heldKeys heldWhats x2 x3 0)
set_option maxHeartbeats 1000000 in
set_option maxRecDepth 100000 in
theorem mX2_isHad (l : Launch) (dC : Nat → ClassId) (dI : Nat → Nat → Nat) (cyI cyO cyL : ClassId) (o0 o1 o2 o3 o4 w0 w1 w2 w3 w4 w5 w6 w7 w8 w9 w10 : Nat) (startMakes : Nat → Int32) (opened : Nat → Int32) (number : Int32) (heldKeys : Nat → Int32) (heldWhats : Nat → Int32) (closers : Nat → Int32) (closerMakes : Nat → Int32) (stands : Nat → Int32) (x2 : Int32) (x3 : Int32) (sz : Nat) (res : Int32) (h : fX2_isHad startMakes opened number heldKeys heldWhats x2 x3 = some res) : Met l yX2_isHad (wsG yX2_isHad cX2_isHad 5 (some .boolean)) ({ frames := 2, cells := 0, slots := 0, locals := 44 }) (cP dC dI cyI cyO cyL sz [.ref o0, .ref w0, .int x2, .int x3] ((openW cyI o0 o1 o2 o3 o4 startMakes opened) ++ (wrapsW cyI w0 w1 w2 w3 w4 w5 w6 w7 w8 w9 w10 number heldKeys heldWhats closers closerMakes stands))) (cI dC dI res ((openW cyI o0 o1 o2 o3 o4 startMakes opened) ++ (wrapsW cyI w0 w1 w2 w3 w4 w5 w6 w7 w8 w9 w10 number heldKeys heldWhats closers closerMakes stands)) (va_A ((openW cyI o0 o1 o2 o3 o4 startMakes opened) ++ (wrapsW cyI w0 w1 w2 w3 w4 w5 w6 w7 w8 w9 w10 number heldKeys heldWhats closers closerMakes stands)) sz)) 0 0 (va_A ((openW cyI o0 o1 o2 o3 o4 startMakes opened) ++ (wrapsW cyI w0 w1 w2 w3 w4 w5 w6 w7 w8 w9 w10 number heldKeys heldWhats closers closerMakes stands)) sz) := by
  refine Met.ofW (cc := cX2_isHad) (maxL := 5) (ret := (some .boolean)) (by decide) rfl ?_
  intro p e s m args below meth c s₁ B hml hv
  obtain ⟨rfl, hsz, hP, hK, hD0⟩ := hv
  have hx := B.exec
  have hb := B.bytes
  have hr := B.returns
  have hts := atoms_spec (ws := wsG yX2_isHad cX2_isHad 5 (some .boolean)) B.pre
  have hown : s.vm.findClass RX2 = some m.cls := findClass_of_methodNamed B.named
  have hlocks := B.notSynchronized
  subst hsz
  have hD := hD0.self (sz := s.heap.size)
  generalize hAe : va_A ((openW cyI o0 o1 o2 o3 o4 startMakes opened) ++ (wrapsW cyI w0 w1 w2 w3 w4 w5 w6 w7 w8 w9 w10 number heldKeys heldWhats closers closerMakes stands)) s.heap.size = A at hD ⊢
  have hA : ∀ q : Nat, s.heap.size ≤ q → A q := fun q h => by rw [← hAe]; exact Or.inr h
  have hS : va_S A s.heap s.heap [] := va_S.rf
  have kB17 : ∀ (fuel : Nat) (startMakes : Nat → Int32) (opened : Nat → Int32) (number : Int32) (heldKeys : Nat → Int32) (heldWhats : Nat → Int32) (y2 : Int32) (y3 : Int32) (y4 : Int32), fX2_isHad_b17 fuel startMakes opened number heldKeys heldWhats y2 y3 y4 = some res → ∀ (H : Heap) (locs : List Loc), va_P (dC, dI) vwCl ((openW cyI o0 o1 o2 o3 o4 startMakes opened) ++ (wrapsW cyI w0 w1 w2 w3 w4 w5 w6 w7 w8 w9 w10 number heldKeys heldWhats closers closerMakes stands)) H → va_D A ((openW cyI o0 o1 o2 o3 o4 startMakes opened) ++ (wrapsW cyI w0 w1 w2 w3 w4 w5 w6 w7 w8 w9 w10 number heldKeys heldWhats closers closerMakes stands)) → va_S A s.heap H locs → ∀ ls : Array Slot, lv_has ls 5 [(0, .ref o0), (1, .ref w0), (2, .int y2), (3, .int y3), (4, .int y4)] → W p l e (headSpec (wsG yX2_isHad cX2_isHad 5 (some .boolean)) ({ frames := 2, cells := 0, slots := 0, locals := 44 })).room s m (([.ref o0, .ref w0, .int x2, .int x3] : List Value).toArray) below meth c H locs 0 0 (MQ below (cI dC dI res ((openW cyI o0 o1 o2 o3 o4 startMakes opened) ++ (wrapsW cyI w0 w1 w2 w3 w4 w5 w6 w7 w8 w9 w10 number heldKeys heldWhats closers closerMakes stands)) A) ([.ref o0, .ref w0, .int x2, .int x3] : List Value).toArray s 0 0 A) (F0 m 17 ls []) := by
    intro fuel
    induction fuel with
    | zero => intro startMakes opened number heldKeys heldWhats y2 y3 y4 h; rw [fX2_isHad_b17] at h; cases h
    | succ fuel ih =>
      intro startMakes opened number heldKeys heldWhats y2 y3 y4 h H locs hP hD hS ls hl
      rw [fX2_isHad_b17] at h
      refine lv_iload hx hb dX2_isHad_17 (lv_at hl 4 rfl) ?_
      refine lv_aload_n hx hb dX2_isHad_19 rfl (lv_at hl 1 rfl) ?_
      refine va_getN (D := (dC, dI)) (ci := 6) (v := .int number) (C := RX6) (T := TX6) (N := 6) hx hb hts (fun w h9 => gb_mem (lay_X6 w h9)) hown hK.1 hP 5 rfl rfl 0 (by decide) (va_Nw.use rfl (hK.2 _ nl_X2_73)) (fun _ h9 => h9) rfl dX2_isHad_20 ?_
      refine lv_icmp_ge (tgt := 57) hx hb dX2_isHad_23 (by decide) (fun c1 => ?_) (fun c1 => ?_)
      · have h := (if_pos c1).symm.trans h
        refine lv_iconst (v := 0) hx hb dX2_isHad_57 (by decide) ?_
        obtain rfl := Option.some.inj h
        exact e_z (v := 0) hx hb hr hlocks rfl hP hS dX2_isHad_58
      · have h := (if_neg c1).symm.trans h
        refine lv_aload_n hx hb dX2_isHad_26 rfl (lv_at hl 0 rfl) ?_
        refine va_get (D := (dC, dI)) (ci := 2) (v := .ref o3) (C := RX2) (T := TX2) (N := 2) hx hb hts (fun w h9 => gb_mem (lay_X2 w h9)) hown hK.1 hP 0 rfl rfl 1 (by decide) (hts _ (gb_mem fl_X2_20)) (fun _ h9 => h9) rfl dX2_isHad_27 ?_
        refine lv_iload hx hb dX2_isHad_30 (lv_at hl 4 rfl) ?_
        refine fr_ir (M := (rowW cyI o3 o4 120 opened)) (va_runV (As := [.int y4]) (rest := []) ⟨hx, hb, hml, hown, hts⟩ (tX4_at l dC dI cyI cyO cyL o3 o4 120 opened y4 _ (rAt 120 opened y4) rfl (by decide)) (cwV 1 hts (gV ml_X2_92 im_X4_at se_X4_at in_X4 co_X4_at) rfl rfl rfl (by decide +kernel) ⟨Nat.le_of_ble_eq_true rfl, Nat.le_of_ble_eq_true rfl⟩) (cP_V hK hP hD [3, 4] rfl rfl 3 rfl rfl) rfl rfl hl.1 rfl (lv_room (Nat.le_of_ble_eq_true rfl)) dX2_isHad_32 ⟨Nat.zero_le _, Nat.zero_le _⟩) hP hD hS hA [3, 4] rfl (fun H locs hP hS => ?_)
        refine lv_if_eq (tgt := 51) hx hb dX2_isHad_35 (by decide) (fun c2 => ?_) (fun c2 => ?_)
        · have h := (if_pos c2).symm.trans h
          refine lv_iinc (v := (y4 + 1)) (lv' := [(4, .int (y4 + 1)), (0, .ref o0), (1, .ref w0), (2, .int y2), (3, .int y3)]) hx hb dX2_isHad_51 hl (k := 4) rfl rfl (by decide) rfl (fun ls hl => ?_)
          refine lv_goto (tgt := 17) hx hb dX2_isHad_54 (by decide) ?_
          exact ih startMakes opened number heldKeys heldWhats y2 y3 (y4 + 1) h _ _ hP hD hS ls (lv_sub hl [1, 2, 3, 4, 0] rfl)
        · have h := (if_neg c2).symm.trans h
          refine lv_aload_n hx hb dX2_isHad_38 rfl (lv_at hl 1 rfl) ?_
          refine lv_iload hx hb dX2_isHad_39 (lv_at hl 4 rfl) ?_
          refine lv_iload_n hx hb dX2_isHad_41 rfl (lv_at hl 2 rfl) ?_
          refine lv_iload_n hx hb dX2_isHad_42 rfl (lv_at hl 3 rfl) ?_
          refine fr_ir (M := (wrapsW cyI w0 w1 w2 w3 w4 w5 w6 w7 w8 w9 w10 number heldKeys heldWhats closers closerMakes stands)) (va_runV (As := [.int y4, .int y2, .int y3]) (rest := []) ⟨hx, hb, hml, hown, hts⟩ (mX6_holdsMake l dC dI cyI cyO cyL w0 w1 w2 w3 w4 w5 w6 w7 w8 w9 w10 number heldKeys heldWhats closers closerMakes stands y4 y2 y3 _ (fX6_holdsMake heldKeys heldWhats y4 y2 y3) rfl) (cwV 3 hts (gV ml_X2_95 im_X6_holdsMake se_X6_holdsMake in_X6 co_X6_holdsMake) rfl rfl rfl (by decide +kernel) ⟨Nat.le_of_ble_eq_true rfl, Nat.le_of_ble_eq_true rfl⟩) (cP_V hK hP hD [5, 6, 7, 8, 9, 10, 11, 12, 13, 14, 15] rfl rfl 5 rfl rfl) rfl rfl hl.1 rfl (lv_room (Nat.le_of_ble_eq_true rfl)) dX2_isHad_43 ⟨Nat.zero_le _, Nat.zero_le _⟩) hP hD hS hA [5, 6, 7, 8, 9, 10, 11, 12, 13, 14, 15] rfl (fun H locs hP hS => ?_)
          refine lv_if_eq (tgt := 51) hx hb dX2_isHad_46 (by decide) (fun c3 => ?_) (fun c3 => ?_)
          · have h := (if_pos c3).symm.trans h
            refine lv_iinc (v := (y4 + 1)) (lv' := [(4, .int (y4 + 1)), (0, .ref o0), (1, .ref w0), (2, .int y2), (3, .int y3)]) hx hb dX2_isHad_51 hl (k := 4) rfl rfl (by decide) rfl (fun ls hl => ?_)
            refine lv_goto (tgt := 17) hx hb dX2_isHad_54 (by decide) ?_
            exact ih startMakes opened number heldKeys heldWhats y2 y3 (y4 + 1) h _ _ hP hD hS ls (lv_sub hl [1, 2, 3, 4, 0] rfl)
          · have h := (if_neg c3).symm.trans h
            refine lv_iconst (v := 1) hx hb dX2_isHad_49 (by decide) ?_
            obtain rfl := Option.some.inj h
            exact e_z (v := 1) hx hb hr hlocks rfl hP hS dX2_isHad_50
  have hl := lv_entry ([.ref o0, .ref w0, .int x2, .int x3]) (n := 5) (Nat.le_of_ble_eq_true rfl)
  rw [lg_entry_eq]
  generalize (lg_sl ([.ref o0, .ref w0, .int x2, .int x3]) ++ List.replicate (5 - (lg_sl ([.ref o0, .ref w0, .int x2, .int x3])).length) Slot.unset).toArray = ls at hl ⊢
  have hl : lv_has ls 5 [(0, .ref o0), (1, .ref w0), (2, .int x2), (3, .int x3)] := hl
  unfold fX2_isHad at h
  refine lv_aload_n hx hb dX2_isHad_0 rfl (lv_at hl 0 rfl) ?_
  refine va_get (D := (dC, dI)) (ci := 2) (v := .ref o1) (C := RX2) (T := TX2) (N := 2) hx hb hts (fun w h9 => gb_mem (lay_X2 w h9)) hown hK.1 hP 0 rfl rfl 0 (by decide) (hts _ (gb_mem fl_X2_14)) (fun _ h9 => h9) rfl dX2_isHad_1 ?_
  refine lv_iload_n hx hb dX2_isHad_4 rfl (lv_at hl 2 rfl) ?_
  refine fr_ir (M := (rowW cyI o1 o2 20 startMakes)) (va_runV (As := [.int x2]) (rest := []) ⟨hx, hb, hml, hown, hts⟩ (tX4_at l dC dI cyI cyO cyL o1 o2 20 startMakes x2 _ (rAt 20 startMakes x2) rfl (by decide)) (cwV 1 hts (gV ml_X2_92 im_X4_at se_X4_at in_X4 co_X4_at) rfl rfl rfl (by decide +kernel) ⟨Nat.le_of_ble_eq_true rfl, Nat.le_of_ble_eq_true rfl⟩) (cP_V hK hP hD [1, 2] rfl rfl 1 rfl rfl) rfl rfl hl.1 rfl (lv_room (Nat.le_of_ble_eq_true rfl)) dX2_isHad_5 ⟨Nat.zero_le _, Nat.zero_le _⟩) hP hD hS hA [1, 2] rfl (fun H locs hP hS => ?_)
  refine lv_iload_n hx hb dX2_isHad_8 rfl (lv_at hl 3 rfl) ?_
  refine lv_icmp_ne (tgt := 14) hx hb dX2_isHad_9 (by decide) (fun c4 => ?_) (fun c4 => ?_)
  · have h := (if_neg c4).symm.trans h
    refine lv_iconst (v := 0) hx hb dX2_isHad_14 (by decide) ?_
    refine lv_istore (lv' := [(4, .int 0), (0, .ref o0), (1, .ref w0), (2, .int x2), (3, .int x3)]) hx hb dX2_isHad_15 hl (by decide) rfl (fun ls hl => ?_)
    exact kB17 6000 startMakes opened number heldKeys heldWhats x2 x3 0 h _ _ hP hD hS ls (lv_sub hl [1, 2, 3, 4, 0] rfl)
  · have h := (if_pos c4).symm.trans h
    refine lv_iconst (v := 1) hx hb dX2_isHad_12 (by decide) ?_
    obtain rfl := Option.some.inj h
    exact e_z (v := 1) hx hb hr hlocks rfl hP hS dX2_isHad_13
noncomputable def fX2_openHolding_b3 : Nat → (Nat → Int32) → (Nat → Int32) → Int32 → (Nat → Int32) → (Nat → Int32) → (Nat → Int32) → (Nat → Int32) → (Nat → Int32) → Int32 → Int32 → Int32 → Option ((Nat → Int32))
  | 0, _, _, _, _, _, _, _, _, _, _, _ => none
  | fuel + 1, startMakes, opened, number, heldKeys, heldWhats, closers, closerMakes, stands, y2, y3, y4 =>
  (if number ≤ y4 then (some opened) else (if (fX6_heldKey heldKeys y4) = y2 then (if (fX6_standsIn stands y4 y3) = 0 then fX2_openHolding_b3 fuel startMakes opened number heldKeys heldWhats closers closerMakes stands y2 y3 (y4 + 1) else ((fX2_isHad startMakes opened number heldKeys heldWhats (fX6_closer closers y4) (fX6_closerMake closerMakes y4)).bind fun q4 => (if q4 = 0 then fX2_openHolding_b3 fuel startMakes opened number heldKeys heldWhats closers closerMakes stands y2 y3 (y4 + 1) else fX2_openHolding_b3 fuel startMakes (rSet 120 opened y4 1) number heldKeys heldWhats closers closerMakes stands y2 y3 (y4 + 1)))) else fX2_openHolding_b3 fuel startMakes opened number heldKeys heldWhats closers closerMakes stands y2 y3 (y4 + 1)))

noncomputable def fX2_openHolding (startMakes : Nat → Int32) (opened : Nat → Int32) (number : Int32) (heldKeys : Nat → Int32) (heldWhats : Nat → Int32) (closers : Nat → Int32) (closerMakes : Nat → Int32) (stands : Nat → Int32) (x2 : Int32) (x3 : Int32) : Option ((Nat → Int32)) :=
  fX2_openHolding_b3 6000 startMakes opened number heldKeys heldWhats closers closerMakes stands x2 x3 0
set_option maxHeartbeats 1000000 in
set_option maxRecDepth 100000 in
theorem mX2_openHolding (l : Launch) (dC : Nat → ClassId) (dI : Nat → Nat → Nat) (cyI cyO cyL : ClassId) (o0 o1 o2 o3 o4 w0 w1 w2 w3 w4 w5 w6 w7 w8 w9 w10 : Nat) (startMakes : Nat → Int32) (opened : Nat → Int32) (number : Int32) (heldKeys : Nat → Int32) (heldWhats : Nat → Int32) (closers : Nat → Int32) (closerMakes : Nat → Int32) (stands : Nat → Int32) (x2 : Int32) (x3 : Int32) (sz : Nat) (res : (Nat → Int32)) (h : fX2_openHolding startMakes opened number heldKeys heldWhats closers closerMakes stands x2 x3 = some res) : Met l yX2_openHolding (wsG yX2_openHolding cX2_openHolding 5 none) ({ frames := 3, cells := 0, slots := 0, locals := 68 }) (cP dC dI cyI cyO cyL sz [.ref o0, .ref w0, .int x2, .int x3] ((openW cyI o0 o1 o2 o3 o4 startMakes opened) ++ (wrapsW cyI w0 w1 w2 w3 w4 w5 w6 w7 w8 w9 w10 number heldKeys heldWhats closers closerMakes stands))) (cV dC dI ((openW cyI o0 o1 o2 o3 o4 startMakes res) ++ (wrapsW cyI w0 w1 w2 w3 w4 w5 w6 w7 w8 w9 w10 number heldKeys heldWhats closers closerMakes stands)) (va_A ((openW cyI o0 o1 o2 o3 o4 startMakes opened) ++ (wrapsW cyI w0 w1 w2 w3 w4 w5 w6 w7 w8 w9 w10 number heldKeys heldWhats closers closerMakes stands)) sz)) 0 0 (va_A ((openW cyI o0 o1 o2 o3 o4 startMakes opened) ++ (wrapsW cyI w0 w1 w2 w3 w4 w5 w6 w7 w8 w9 w10 number heldKeys heldWhats closers closerMakes stands)) sz) := by
  refine Met.ofW (cc := cX2_openHolding) (maxL := 5) (ret := none) (by decide) rfl ?_
  intro p e s m args below meth c s₁ B hml hv
  obtain ⟨rfl, hsz, hP, hK, hD0⟩ := hv
  have hx := B.exec
  have hb := B.bytes
  have hr := B.returns
  have hts := atoms_spec (ws := wsG yX2_openHolding cX2_openHolding 5 none) B.pre
  have hown : s.vm.findClass RX2 = some m.cls := findClass_of_methodNamed B.named
  have hlocks := B.notSynchronized
  subst hsz
  have hD := hD0.self (sz := s.heap.size)
  generalize hAe : va_A ((openW cyI o0 o1 o2 o3 o4 startMakes opened) ++ (wrapsW cyI w0 w1 w2 w3 w4 w5 w6 w7 w8 w9 w10 number heldKeys heldWhats closers closerMakes stands)) s.heap.size = A at hD ⊢
  have hA : ∀ q : Nat, s.heap.size ≤ q → A q := fun q h => by rw [← hAe]; exact Or.inr h
  have hS : va_S A s.heap s.heap [] := va_S.rf
  have kB3 : ∀ (fuel : Nat) (startMakes : Nat → Int32) (opened : Nat → Int32) (number : Int32) (heldKeys : Nat → Int32) (heldWhats : Nat → Int32) (closers : Nat → Int32) (closerMakes : Nat → Int32) (stands : Nat → Int32) (y2 : Int32) (y3 : Int32) (y4 : Int32), fX2_openHolding_b3 fuel startMakes opened number heldKeys heldWhats closers closerMakes stands y2 y3 y4 = some res → ∀ (H : Heap) (locs : List Loc), va_P (dC, dI) vwCl ((openW cyI o0 o1 o2 o3 o4 startMakes opened) ++ (wrapsW cyI w0 w1 w2 w3 w4 w5 w6 w7 w8 w9 w10 number heldKeys heldWhats closers closerMakes stands)) H → va_D A ((openW cyI o0 o1 o2 o3 o4 startMakes opened) ++ (wrapsW cyI w0 w1 w2 w3 w4 w5 w6 w7 w8 w9 w10 number heldKeys heldWhats closers closerMakes stands)) → va_S A s.heap H locs → ∀ ls : Array Slot, lv_has ls 5 [(0, .ref o0), (1, .ref w0), (2, .int y2), (3, .int y3), (4, .int y4)] → W p l e (headSpec (wsG yX2_openHolding cX2_openHolding 5 none) ({ frames := 3, cells := 0, slots := 0, locals := 68 })).room s m (([.ref o0, .ref w0, .int x2, .int x3] : List Value).toArray) below meth c H locs 0 0 (MQ below (cV dC dI ((openW cyI o0 o1 o2 o3 o4 startMakes res) ++ (wrapsW cyI w0 w1 w2 w3 w4 w5 w6 w7 w8 w9 w10 number heldKeys heldWhats closers closerMakes stands)) A) ([.ref o0, .ref w0, .int x2, .int x3] : List Value).toArray s 0 0 A) (F0 m 3 ls []) := by
    intro fuel
    induction fuel with
    | zero => intro startMakes opened number heldKeys heldWhats closers closerMakes stands y2 y3 y4 h; rw [fX2_openHolding_b3] at h; cases h
    | succ fuel ih =>
      intro startMakes opened number heldKeys heldWhats closers closerMakes stands y2 y3 y4 h H locs hP hD hS ls hl
      rw [fX2_openHolding_b3] at h
      refine lv_iload hx hb dX2_openHolding_3 (lv_at hl 4 rfl) ?_
      refine lv_aload_n hx hb dX2_openHolding_5 rfl (lv_at hl 1 rfl) ?_
      refine va_getN (D := (dC, dI)) (ci := 6) (v := .int number) (C := RX6) (T := TX6) (N := 6) hx hb hts (fun w h9 => gb_mem (lay_X6 w h9)) hown hK.1 hP 5 rfl rfl 0 (by decide) (va_Nw.use rfl (hK.2 _ nl_X2_73)) (fun _ h9 => h9) rfl dX2_openHolding_6 ?_
      refine lv_icmp_ge (tgt := 68) hx hb dX2_openHolding_9 (by decide) (fun c1 => ?_) (fun c1 => ?_)
      · have h := (if_pos c1).symm.trans h
        obtain rfl := Option.some.inj h
        exact e_v hx hb hr hlocks hP hS dX2_openHolding_68
      · have h := (if_neg c1).symm.trans h
        refine lv_aload_n hx hb dX2_openHolding_12 rfl (lv_at hl 1 rfl) ?_
        refine lv_iload hx hb dX2_openHolding_13 (lv_at hl 4 rfl) ?_
        refine fr_ir (M := (wrapsW cyI w0 w1 w2 w3 w4 w5 w6 w7 w8 w9 w10 number heldKeys heldWhats closers closerMakes stands)) (va_runV (As := [.int y4]) (rest := []) ⟨hx, hb, hml, hown, hts⟩ (mX6_heldKey l dC dI cyI cyO cyL w0 w1 w2 w3 w4 w5 w6 w7 w8 w9 w10 number heldKeys heldWhats closers closerMakes stands y4 _ (fX6_heldKey heldKeys y4) rfl) (cwV 1 hts (gV ml_X2_79 im_X6_heldKey se_X6_heldKey in_X6 co_X6_heldKey) rfl rfl rfl (by decide +kernel) ⟨Nat.le_of_ble_eq_true rfl, Nat.le_of_ble_eq_true rfl⟩) (cP_V hK hP hD [5, 6, 7, 8, 9, 10, 11, 12, 13, 14, 15] rfl rfl 5 rfl rfl) rfl rfl hl.1 rfl (lv_room (Nat.le_of_ble_eq_true rfl)) dX2_openHolding_15 ⟨Nat.zero_le _, Nat.zero_le _⟩) hP hD hS hA [5, 6, 7, 8, 9, 10, 11, 12, 13, 14, 15] rfl (fun H locs hP hS => ?_)
        refine lv_iload_n hx hb dX2_openHolding_18 rfl (lv_at hl 2 rfl) ?_
        refine lv_icmp_ne (tgt := 62) hx hb dX2_openHolding_19 (by decide) (fun c2 => ?_) (fun c2 => ?_)
        · have h := (if_neg c2).symm.trans h
          refine lv_iinc (v := (y4 + 1)) (lv' := [(4, .int (y4 + 1)), (0, .ref o0), (1, .ref w0), (2, .int y2), (3, .int y3)]) hx hb dX2_openHolding_62 hl (k := 4) rfl rfl (by decide) rfl (fun ls hl => ?_)
          refine lv_goto (tgt := 3) hx hb dX2_openHolding_65 (by decide) ?_
          exact ih startMakes opened number heldKeys heldWhats closers closerMakes stands y2 y3 (y4 + 1) h _ _ hP hD hS ls (lv_sub hl [1, 2, 3, 4, 0] rfl)
        · have h := (if_pos c2).symm.trans h
          refine lv_aload_n hx hb dX2_openHolding_22 rfl (lv_at hl 1 rfl) ?_
          refine lv_iload hx hb dX2_openHolding_23 (lv_at hl 4 rfl) ?_
          refine lv_iload_n hx hb dX2_openHolding_25 rfl (lv_at hl 3 rfl) ?_
          refine fr_ir (M := (wrapsW cyI w0 w1 w2 w3 w4 w5 w6 w7 w8 w9 w10 number heldKeys heldWhats closers closerMakes stands)) (va_runV (As := [.int y4, .int y3]) (rest := []) ⟨hx, hb, hml, hown, hts⟩ (mX6_standsIn l dC dI cyI cyO cyL w0 w1 w2 w3 w4 w5 w6 w7 w8 w9 w10 number heldKeys heldWhats closers closerMakes stands y4 y3 _ (fX6_standsIn stands y4 y3) rfl) (cwV 2 hts (gV ml_X2_82 im_X6_standsIn se_X6_standsIn in_X6 co_X6_standsIn) rfl rfl rfl (by decide +kernel) ⟨Nat.le_of_ble_eq_true rfl, Nat.le_of_ble_eq_true rfl⟩) (cP_V hK hP hD [5, 6, 7, 8, 9, 10, 11, 12, 13, 14, 15] rfl rfl 5 rfl rfl) rfl rfl hl.1 rfl (lv_room (Nat.le_of_ble_eq_true rfl)) dX2_openHolding_26 ⟨Nat.zero_le _, Nat.zero_le _⟩) hP hD hS hA [5, 6, 7, 8, 9, 10, 11, 12, 13, 14, 15] rfl (fun H locs hP hS => ?_)
          refine lv_if_eq (tgt := 62) hx hb dX2_openHolding_29 (by decide) (fun c3 => ?_) (fun c3 => ?_)
          · have h := (if_pos c3).symm.trans h
            refine lv_iinc (v := (y4 + 1)) (lv' := [(4, .int (y4 + 1)), (0, .ref o0), (1, .ref w0), (2, .int y2), (3, .int y3)]) hx hb dX2_openHolding_62 hl (k := 4) rfl rfl (by decide) rfl (fun ls hl => ?_)
            refine lv_goto (tgt := 3) hx hb dX2_openHolding_65 (by decide) ?_
            exact ih startMakes opened number heldKeys heldWhats closers closerMakes stands y2 y3 (y4 + 1) h _ _ hP hD hS ls (lv_sub hl [1, 2, 3, 4, 0] rfl)
          · have h := (if_neg c3).symm.trans h
            refine lv_aload_n hx hb dX2_openHolding_32 rfl (lv_at hl 0 rfl) ?_
            refine lv_aload_n hx hb dX2_openHolding_33 rfl (lv_at hl 1 rfl) ?_
            refine lv_aload_n hx hb dX2_openHolding_34 rfl (lv_at hl 1 rfl) ?_
            refine lv_iload hx hb dX2_openHolding_35 (lv_at hl 4 rfl) ?_
            refine fr_ir (M := (wrapsW cyI w0 w1 w2 w3 w4 w5 w6 w7 w8 w9 w10 number heldKeys heldWhats closers closerMakes stands)) (va_runV (As := [.int y4]) (rest := [.ref w0, .ref o0]) ⟨hx, hb, hml, hown, hts⟩ (mX6_closer l dC dI cyI cyO cyL w0 w1 w2 w3 w4 w5 w6 w7 w8 w9 w10 number heldKeys heldWhats closers closerMakes stands y4 _ (fX6_closer closers y4) rfl) (cwV 1 hts (gV ml_X2_86 im_X6_closer se_X6_closer in_X6 co_X6_closer) rfl rfl rfl (by decide +kernel) ⟨Nat.le_of_ble_eq_true rfl, Nat.le_of_ble_eq_true rfl⟩) (cP_V hK hP hD [5, 6, 7, 8, 9, 10, 11, 12, 13, 14, 15] rfl rfl 5 rfl rfl) rfl rfl hl.1 rfl (lv_room (Nat.le_of_ble_eq_true rfl)) dX2_openHolding_37 ⟨Nat.zero_le _, Nat.zero_le _⟩) hP hD hS hA [5, 6, 7, 8, 9, 10, 11, 12, 13, 14, 15] rfl (fun H locs hP hS => ?_)
            refine lv_aload_n hx hb dX2_openHolding_40 rfl (lv_at hl 1 rfl) ?_
            refine lv_iload hx hb dX2_openHolding_41 (lv_at hl 4 rfl) ?_
            refine fr_ir (M := (wrapsW cyI w0 w1 w2 w3 w4 w5 w6 w7 w8 w9 w10 number heldKeys heldWhats closers closerMakes stands)) (va_runV (As := [.int y4]) (rest := [.int (fX6_closer closers y4), .ref w0, .ref o0]) ⟨hx, hb, hml, hown, hts⟩ (mX6_closerMake l dC dI cyI cyO cyL w0 w1 w2 w3 w4 w5 w6 w7 w8 w9 w10 number heldKeys heldWhats closers closerMakes stands y4 _ (fX6_closerMake closerMakes y4) rfl) (cwV 1 hts (gV ml_X2_89 im_X6_closerMake se_X6_closerMake in_X6 co_X6_closerMake) rfl rfl rfl (by decide +kernel) ⟨Nat.le_of_ble_eq_true rfl, Nat.le_of_ble_eq_true rfl⟩) (cP_V hK hP hD [5, 6, 7, 8, 9, 10, 11, 12, 13, 14, 15] rfl rfl 5 rfl rfl) rfl rfl hl.1 rfl (lv_room (Nat.le_of_ble_eq_true rfl)) dX2_openHolding_43 ⟨Nat.zero_le _, Nat.zero_le _⟩) hP hD hS hA [5, 6, 7, 8, 9, 10, 11, 12, 13, 14, 15] rfl (fun H locs hP hS => ?_)
            obtain ⟨q4, e5, h⟩ := ob h
            refine fr_ir (M := ((openW cyI o0 o1 o2 o3 o4 startMakes opened) ++ (wrapsW cyI w0 w1 w2 w3 w4 w5 w6 w7 w8 w9 w10 number heldKeys heldWhats closers closerMakes stands))) (va_runV (As := [.ref w0, .int (fX6_closer closers y4), .int (fX6_closerMake closerMakes y4)]) (rest := []) ⟨hx, hb, hml, hown, hts⟩ (mX2_isHad l dC dI cyI cyO cyL o0 o1 o2 o3 o4 w0 w1 w2 w3 w4 w5 w6 w7 w8 w9 w10 startMakes opened number heldKeys heldWhats closers closerMakes stands (fX6_closer closers y4) (fX6_closerMake closerMakes y4) _ q4 e5) (cwV 3 hts (gV ml_X2_45 im_X2_isHad se_X2_isHad in_X2 co_X2_isHad) rfl rfl rfl (by decide +kernel) ⟨Nat.le_of_ble_eq_true rfl, Nat.le_of_ble_eq_true rfl⟩) (cP_V hK hP hD [0, 1, 2, 3, 4, 5, 6, 7, 8, 9, 10, 11, 12, 13, 14, 15] rfl rfl 0 rfl rfl) rfl rfl hl.1 rfl (lv_room (Nat.le_of_ble_eq_true rfl)) dX2_openHolding_46 ⟨Nat.zero_le _, Nat.zero_le _⟩) hP hD hS hA [0, 1, 2, 3, 4, 5, 6, 7, 8, 9, 10, 11, 12, 13, 14, 15] rfl (fun H locs hP hS => ?_)
            refine lv_if_eq (tgt := 62) hx hb dX2_openHolding_49 (by decide) (fun c6 => ?_) (fun c6 => ?_)
            · have h := (if_pos c6).symm.trans h
              refine lv_iinc (v := (y4 + 1)) (lv' := [(4, .int (y4 + 1)), (0, .ref o0), (1, .ref w0), (2, .int y2), (3, .int y3)]) hx hb dX2_openHolding_62 hl (k := 4) rfl rfl (by decide) rfl (fun ls hl => ?_)
              refine lv_goto (tgt := 3) hx hb dX2_openHolding_65 (by decide) ?_
              exact ih startMakes opened number heldKeys heldWhats closers closerMakes stands y2 y3 (y4 + 1) h _ _ hP hD hS ls (lv_sub hl [1, 2, 3, 4, 0] rfl)
            · have h := (if_neg c6).symm.trans h
              refine lv_aload_n hx hb dX2_openHolding_52 rfl (lv_at hl 0 rfl) ?_
              refine va_get (D := (dC, dI)) (ci := 2) (v := .ref o3) (C := RX2) (T := TX2) (N := 2) hx hb hts (fun w h9 => gb_mem (lay_X2 w h9)) hown hK.1 hP 0 rfl rfl 1 (by decide) (hts _ (gb_mem fl_X2_20)) (fun _ h9 => h9) rfl dX2_openHolding_53 ?_
              refine lv_iload hx hb dX2_openHolding_56 (lv_at hl 4 rfl) ?_
              refine lv_iconst (v := 1) hx hb dX2_openHolding_58 (by decide) ?_
              refine fr_v (M := (rowW cyI o3 o4 120 opened)) (M' := (rowW cyI o3 o4 120 (rSet 120 opened y4 1))) (L' := ((openW cyI o0 o1 o2 o3 o4 startMakes (rSet 120 opened y4 1)) ++ (wrapsW cyI w0 w1 w2 w3 w4 w5 w6 w7 w8 w9 w10 number heldKeys heldWhats closers closerMakes stands))) (va_runV (As := [.int y4, .int 1]) (rest := []) ⟨hx, hb, hml, hown, hts⟩ (tX4_set l dC dI cyI cyO cyL o3 o4 120 opened y4 1 _ (rSet 120 opened y4 1) rfl (by decide)) (cwV 2 hts (gV ml_X2_52 im_X4_set se_X4_set in_X4 co_X4_set) rfl rfl rfl (by decide +kernel) ⟨Nat.le_of_ble_eq_true rfl, Nat.le_of_ble_eq_true rfl⟩) (cP_V hK hP hD [3, 4] rfl rfl 3 rfl rfl) rfl rfl hl.1 rfl (lv_room (Nat.le_of_ble_eq_true rfl)) dX2_openHolding_59 ⟨Nat.zero_le _, Nat.zero_le _⟩) hP hD hS hA [3, 4] rfl [(false, 0), (false, 1), (false, 2), (true, 0), (true, 1), (false, 5), (false, 6), (false, 7), (false, 8), (false, 9), (false, 10), (false, 11), (false, 12), (false, 13), (false, 14), (false, 15)] rfl rfl rfl (fun H locs hP hD hS => ?_)
              refine lv_iinc (v := (y4 + 1)) (lv' := [(4, .int (y4 + 1)), (0, .ref o0), (1, .ref w0), (2, .int y2), (3, .int y3)]) hx hb dX2_openHolding_62 hl (k := 4) rfl rfl (by decide) rfl (fun ls hl => ?_)
              refine lv_goto (tgt := 3) hx hb dX2_openHolding_65 (by decide) ?_
              exact ih startMakes (rSet 120 opened y4 1) number heldKeys heldWhats closers closerMakes stands y2 y3 (y4 + 1) h _ _ hP hD hS ls (lv_sub hl [1, 2, 3, 4, 0] rfl)
  have hl := lv_entry ([.ref o0, .ref w0, .int x2, .int x3]) (n := 5) (Nat.le_of_ble_eq_true rfl)
  rw [lg_entry_eq]
  generalize (lg_sl ([.ref o0, .ref w0, .int x2, .int x3]) ++ List.replicate (5 - (lg_sl ([.ref o0, .ref w0, .int x2, .int x3])).length) Slot.unset).toArray = ls at hl ⊢
  have hl : lv_has ls 5 [(0, .ref o0), (1, .ref w0), (2, .int x2), (3, .int x3)] := hl
  unfold fX2_openHolding at h
  refine lv_iconst (v := 0) hx hb dX2_openHolding_0 (by decide) ?_
  refine lv_istore (lv' := [(4, .int 0), (0, .ref o0), (1, .ref w0), (2, .int x2), (3, .int x3)]) hx hb dX2_openHolding_1 hl (by decide) rfl (fun ls hl => ?_)
  exact kB3 6000 startMakes opened number heldKeys heldWhats closers closerMakes stands x2 x3 0 h _ _ hP hD hS ls (lv_sub hl [1, 2, 3, 4, 0] rfl)
noncomputable def fX2_openAll_b10 : Nat → (Nat → Int32) → (Nat → Int32) → Int32 → (Nat → Int32) → (Nat → Int32) → (Nat → Int32) → (Nat → Int32) → (Nat → Int32) → Int32 → Int32 → Option ((Nat → Int32))
  | 0, _, _, _, _, _, _, _, _, _, _ => none
  | fuel + 1, startMakes, opened, number, heldKeys, heldWhats, closers, closerMakes, stands, y2, y3 =>
  (if 20 ≤ y3 then ((fX2_openHolding startMakes opened number heldKeys heldWhats closers closerMakes stands (-6) y2).bind fun q2 => (some q2)) else ((fX2_openHolding startMakes opened number heldKeys heldWhats closers closerMakes stands y3 y2).bind fun q4 => fX2_openAll_b10 fuel startMakes q4 number heldKeys heldWhats closers closerMakes stands y2 (y3 + 1)))

noncomputable def fX2_openAll (startMakes : Nat → Int32) (opened : Nat → Int32) (number : Int32) (heldKeys : Nat → Int32) (heldWhats : Nat → Int32) (closers : Nat → Int32) (closerMakes : Nat → Int32) (stands : Nat → Int32) (x2 : Int32) : Option ((Nat → Int32)) :=
  fX2_openAll_b10 6000 startMakes (rFill 120 opened 0) number heldKeys heldWhats closers closerMakes stands x2 0
set_option maxHeartbeats 1000000 in
set_option maxRecDepth 100000 in
theorem mX2_openAll (l : Launch) (dC : Nat → ClassId) (dI : Nat → Nat → Nat) (cyI cyO cyL : ClassId) (o0 o1 o2 o3 o4 w0 w1 w2 w3 w4 w5 w6 w7 w8 w9 w10 : Nat) (startMakes : Nat → Int32) (opened : Nat → Int32) (number : Int32) (heldKeys : Nat → Int32) (heldWhats : Nat → Int32) (closers : Nat → Int32) (closerMakes : Nat → Int32) (stands : Nat → Int32) (x2 : Int32) (sz : Nat) (res : (Nat → Int32)) (h : fX2_openAll startMakes opened number heldKeys heldWhats closers closerMakes stands x2 = some res) : Met l yX2_openAll (wsG yX2_openAll cX2_openAll 4 none) ({ frames := 4, cells := 0, slots := 0, locals := 92 }) (cP dC dI cyI cyO cyL sz [.ref o0, .ref w0, .int x2] ((openW cyI o0 o1 o2 o3 o4 startMakes opened) ++ (wrapsW cyI w0 w1 w2 w3 w4 w5 w6 w7 w8 w9 w10 number heldKeys heldWhats closers closerMakes stands))) (cV dC dI ((openW cyI o0 o1 o2 o3 o4 startMakes res) ++ (wrapsW cyI w0 w1 w2 w3 w4 w5 w6 w7 w8 w9 w10 number heldKeys heldWhats closers closerMakes stands)) (va_A ((openW cyI o0 o1 o2 o3 o4 startMakes opened) ++ (wrapsW cyI w0 w1 w2 w3 w4 w5 w6 w7 w8 w9 w10 number heldKeys heldWhats closers closerMakes stands)) sz)) 0 0 (va_A ((openW cyI o0 o1 o2 o3 o4 startMakes opened) ++ (wrapsW cyI w0 w1 w2 w3 w4 w5 w6 w7 w8 w9 w10 number heldKeys heldWhats closers closerMakes stands)) sz) := by
  refine Met.ofW (cc := cX2_openAll) (maxL := 4) (ret := none) (by decide) rfl ?_
  intro p e s m args below meth c s₁ B hml hv
  obtain ⟨rfl, hsz, hP, hK, hD0⟩ := hv
  have hx := B.exec
  have hb := B.bytes
  have hr := B.returns
  have hts := atoms_spec (ws := wsG yX2_openAll cX2_openAll 4 none) B.pre
  have hown : s.vm.findClass RX2 = some m.cls := findClass_of_methodNamed B.named
  have hlocks := B.notSynchronized
  subst hsz
  have hD := hD0.self (sz := s.heap.size)
  generalize hAe : va_A ((openW cyI o0 o1 o2 o3 o4 startMakes opened) ++ (wrapsW cyI w0 w1 w2 w3 w4 w5 w6 w7 w8 w9 w10 number heldKeys heldWhats closers closerMakes stands)) s.heap.size = A at hD ⊢
  have hA : ∀ q : Nat, s.heap.size ≤ q → A q := fun q h => by rw [← hAe]; exact Or.inr h
  have hS : va_S A s.heap s.heap [] := va_S.rf
  have kB10 : ∀ (fuel : Nat) (startMakes : Nat → Int32) (opened : Nat → Int32) (number : Int32) (heldKeys : Nat → Int32) (heldWhats : Nat → Int32) (closers : Nat → Int32) (closerMakes : Nat → Int32) (stands : Nat → Int32) (y2 : Int32) (y3 : Int32), fX2_openAll_b10 fuel startMakes opened number heldKeys heldWhats closers closerMakes stands y2 y3 = some res → ∀ (H : Heap) (locs : List Loc), va_P (dC, dI) vwCl ((openW cyI o0 o1 o2 o3 o4 startMakes opened) ++ (wrapsW cyI w0 w1 w2 w3 w4 w5 w6 w7 w8 w9 w10 number heldKeys heldWhats closers closerMakes stands)) H → va_D A ((openW cyI o0 o1 o2 o3 o4 startMakes opened) ++ (wrapsW cyI w0 w1 w2 w3 w4 w5 w6 w7 w8 w9 w10 number heldKeys heldWhats closers closerMakes stands)) → va_S A s.heap H locs → ∀ ls : Array Slot, lv_has ls 4 [(0, .ref o0), (1, .ref w0), (2, .int y2), (3, .int y3)] → W p l e (headSpec (wsG yX2_openAll cX2_openAll 4 none) ({ frames := 4, cells := 0, slots := 0, locals := 92 })).room s m (([.ref o0, .ref w0, .int x2] : List Value).toArray) below meth c H locs 0 0 (MQ below (cV dC dI ((openW cyI o0 o1 o2 o3 o4 startMakes res) ++ (wrapsW cyI w0 w1 w2 w3 w4 w5 w6 w7 w8 w9 w10 number heldKeys heldWhats closers closerMakes stands)) A) ([.ref o0, .ref w0, .int x2] : List Value).toArray s 0 0 A) (F0 m 10 ls []) := by
    intro fuel
    induction fuel with
    | zero => intro startMakes opened number heldKeys heldWhats closers closerMakes stands y2 y3 h; rw [fX2_openAll_b10] at h; cases h
    | succ fuel ih =>
      intro startMakes opened number heldKeys heldWhats closers closerMakes stands y2 y3 h H locs hP hD hS ls hl
      rw [fX2_openAll_b10] at h
      refine lv_iload_n hx hb dX2_openAll_10 rfl (lv_at hl 3 rfl) ?_
      refine lv_bipush (v := 20) hx hb dX2_openAll_11 (by decide) ?_
      refine lv_icmp_ge (tgt := 29) hx hb dX2_openAll_13 (by decide) (fun c1 => ?_) (fun c1 => ?_)
      · have h := (if_pos c1).symm.trans h
        refine lv_aload_n hx hb dX2_openAll_29 rfl (lv_at hl 0 rfl) ?_
        refine lv_aload_n hx hb dX2_openAll_30 rfl (lv_at hl 1 rfl) ?_
        refine lv_bipush (v := (-6)) hx hb dX2_openAll_31 (by decide) ?_
        refine lv_iload_n hx hb dX2_openAll_33 rfl (lv_at hl 2 rfl) ?_
        obtain ⟨q2, e3, h⟩ := ob h
        refine fr_v (M := ((openW cyI o0 o1 o2 o3 o4 startMakes opened) ++ (wrapsW cyI w0 w1 w2 w3 w4 w5 w6 w7 w8 w9 w10 number heldKeys heldWhats closers closerMakes stands))) (M' := ((openW cyI o0 o1 o2 o3 o4 startMakes q2) ++ (wrapsW cyI w0 w1 w2 w3 w4 w5 w6 w7 w8 w9 w10 number heldKeys heldWhats closers closerMakes stands))) (L' := ((openW cyI o0 o1 o2 o3 o4 startMakes q2) ++ (wrapsW cyI w0 w1 w2 w3 w4 w5 w6 w7 w8 w9 w10 number heldKeys heldWhats closers closerMakes stands))) (va_runV (As := [.ref w0, .int (-6), .int y2]) (rest := []) ⟨hx, hb, hml, hown, hts⟩ (mX2_openHolding l dC dI cyI cyO cyL o0 o1 o2 o3 o4 w0 w1 w2 w3 w4 w5 w6 w7 w8 w9 w10 startMakes opened number heldKeys heldWhats closers closerMakes stands (-6) y2 _ q2 e3) (cwV 3 hts (gV ml_X2_69 im_X2_openHolding se_X2_openHolding in_X2 co_X2_openHolding) rfl rfl rfl (by decide +kernel) ⟨Nat.le_of_ble_eq_true rfl, Nat.le_of_ble_eq_true rfl⟩) (cP_V hK hP hD [0, 1, 2, 3, 4, 5, 6, 7, 8, 9, 10, 11, 12, 13, 14, 15] rfl rfl 0 rfl rfl) rfl rfl hl.1 rfl (lv_room (Nat.le_of_ble_eq_true rfl)) dX2_openAll_34 ⟨Nat.zero_le _, Nat.zero_le _⟩) hP hD hS hA [0, 1, 2, 3, 4, 5, 6, 7, 8, 9, 10, 11, 12, 13, 14, 15] rfl [(true, 0), (true, 1), (true, 2), (true, 3), (true, 4), (true, 5), (true, 6), (true, 7), (true, 8), (true, 9), (true, 10), (true, 11), (true, 12), (true, 13), (true, 14), (true, 15)] rfl rfl rfl (fun H locs hP hD hS => ?_)
        obtain rfl := Option.some.inj h
        exact e_v hx hb hr hlocks hP hS dX2_openAll_37
      · have h := (if_neg c1).symm.trans h
        refine lv_aload_n hx hb dX2_openAll_16 rfl (lv_at hl 0 rfl) ?_
        refine lv_aload_n hx hb dX2_openAll_17 rfl (lv_at hl 1 rfl) ?_
        refine lv_iload_n hx hb dX2_openAll_18 rfl (lv_at hl 3 rfl) ?_
        refine lv_iload_n hx hb dX2_openAll_19 rfl (lv_at hl 2 rfl) ?_
        obtain ⟨q4, e5, h⟩ := ob h
        refine fr_v (M := ((openW cyI o0 o1 o2 o3 o4 startMakes opened) ++ (wrapsW cyI w0 w1 w2 w3 w4 w5 w6 w7 w8 w9 w10 number heldKeys heldWhats closers closerMakes stands))) (M' := ((openW cyI o0 o1 o2 o3 o4 startMakes q4) ++ (wrapsW cyI w0 w1 w2 w3 w4 w5 w6 w7 w8 w9 w10 number heldKeys heldWhats closers closerMakes stands))) (L' := ((openW cyI o0 o1 o2 o3 o4 startMakes q4) ++ (wrapsW cyI w0 w1 w2 w3 w4 w5 w6 w7 w8 w9 w10 number heldKeys heldWhats closers closerMakes stands))) (va_runV (As := [.ref w0, .int y3, .int y2]) (rest := []) ⟨hx, hb, hml, hown, hts⟩ (mX2_openHolding l dC dI cyI cyO cyL o0 o1 o2 o3 o4 w0 w1 w2 w3 w4 w5 w6 w7 w8 w9 w10 startMakes opened number heldKeys heldWhats closers closerMakes stands y3 y2 _ q4 e5) (cwV 3 hts (gV ml_X2_69 im_X2_openHolding se_X2_openHolding in_X2 co_X2_openHolding) rfl rfl rfl (by decide +kernel) ⟨Nat.le_of_ble_eq_true rfl, Nat.le_of_ble_eq_true rfl⟩) (cP_V hK hP hD [0, 1, 2, 3, 4, 5, 6, 7, 8, 9, 10, 11, 12, 13, 14, 15] rfl rfl 0 rfl rfl) rfl rfl hl.1 rfl (lv_room (Nat.le_of_ble_eq_true rfl)) dX2_openAll_20 ⟨Nat.zero_le _, Nat.zero_le _⟩) hP hD hS hA [0, 1, 2, 3, 4, 5, 6, 7, 8, 9, 10, 11, 12, 13, 14, 15] rfl [(true, 0), (true, 1), (true, 2), (true, 3), (true, 4), (true, 5), (true, 6), (true, 7), (true, 8), (true, 9), (true, 10), (true, 11), (true, 12), (true, 13), (true, 14), (true, 15)] rfl rfl rfl (fun H locs hP hD hS => ?_)
        refine lv_iinc (v := (y3 + 1)) (lv' := [(3, .int (y3 + 1)), (0, .ref o0), (1, .ref w0), (2, .int y2)]) hx hb dX2_openAll_23 hl (k := 3) rfl rfl (by decide) rfl (fun ls hl => ?_)
        refine lv_goto (tgt := 10) hx hb dX2_openAll_26 (by decide) ?_
        exact ih startMakes q4 number heldKeys heldWhats closers closerMakes stands y2 (y3 + 1) h _ _ hP hD hS ls (lv_sub hl [1, 2, 3, 0] rfl)
  have hl := lv_entry ([.ref o0, .ref w0, .int x2]) (n := 4) (Nat.le_of_ble_eq_true rfl)
  rw [lg_entry_eq]
  generalize (lg_sl ([.ref o0, .ref w0, .int x2]) ++ List.replicate (4 - (lg_sl ([.ref o0, .ref w0, .int x2])).length) Slot.unset).toArray = ls at hl ⊢
  have hl : lv_has ls 4 [(0, .ref o0), (1, .ref w0), (2, .int x2)] := hl
  unfold fX2_openAll at h
  refine lv_aload_n hx hb dX2_openAll_0 rfl (lv_at hl 0 rfl) ?_
  refine va_get (D := (dC, dI)) (ci := 2) (v := .ref o3) (C := RX2) (T := TX2) (N := 2) hx hb hts (fun w h9 => gb_mem (lay_X2 w h9)) hown hK.1 hP 0 rfl rfl 1 (by decide) (hts _ (gb_mem fl_X2_20)) (fun _ h9 => h9) rfl dX2_openAll_1 ?_
  refine lv_iconst (v := 0) hx hb dX2_openAll_4 (by decide) ?_
  refine fr_v (M := (rowW cyI o3 o4 120 opened)) (M' := (rowW cyI o3 o4 120 (rFill 120 opened 0))) (L' := ((openW cyI o0 o1 o2 o3 o4 startMakes (rFill 120 opened 0)) ++ (wrapsW cyI w0 w1 w2 w3 w4 w5 w6 w7 w8 w9 w10 number heldKeys heldWhats closers closerMakes stands))) (va_runV (As := [.int 0]) (rest := []) ⟨hx, hb, hml, hown, hts⟩ (tX4_fill l dC dI cyI cyO cyL o3 o4 120 opened 0 _ (rFill 120 opened 0) rfl (by decide)) (cwV 1 hts (gV ml_X2_49 im_X4_fill se_X4_fill in_X4 co_X4_fill) rfl rfl rfl (by decide +kernel) ⟨Nat.le_of_ble_eq_true rfl, Nat.le_of_ble_eq_true rfl⟩) (cP_V hK hP hD [3, 4] rfl rfl 3 rfl rfl) rfl rfl hl.1 rfl (lv_room (Nat.le_of_ble_eq_true rfl)) dX2_openAll_5 ⟨Nat.zero_le _, Nat.zero_le _⟩) hP hD hS hA [3, 4] rfl [(false, 0), (false, 1), (false, 2), (true, 0), (true, 1), (false, 5), (false, 6), (false, 7), (false, 8), (false, 9), (false, 10), (false, 11), (false, 12), (false, 13), (false, 14), (false, 15)] rfl rfl rfl (fun H locs hP hD hS => ?_)
  refine lv_iconst (v := 0) hx hb dX2_openAll_8 (by decide) ?_
  refine lv_istore_n (lv' := [(3, .int 0), (0, .ref o0), (1, .ref w0), (2, .int x2)]) hx hb dX2_openAll_9 rfl hl (by decide) rfl (fun ls hl => ?_)
  exact kB10 6000 startMakes (rFill 120 opened 0) number heldKeys heldWhats closers closerMakes stands x2 0 h _ _ hP hD hS ls (lv_sub hl [1, 2, 3, 0] rfl)
noncomputable def fX2_openedBoxes_b4 : Nat → (Nat → Int32) → Int32 → (Nat → Int32) → (Nat → Int32) → Int32 → Int32 → Option (Int32)
  | 0, _, _, _, _, _, _ => none
  | fuel + 1, opened, number, heldKeys, heldWhats, y2, y3 =>
  (if number ≤ y3 then (some y2) else (if (rAt 120 opened y3) = 0 then fX2_openedBoxes_b4 fuel opened number heldKeys heldWhats y2 (y3 + 1) else (if (fX6_heldKey heldKeys y3) = (-6) then fX2_openedBoxes_b4 fuel opened number heldKeys heldWhats (y2 ||| (fX7_setOf (fX6_heldWhat heldWhats y3))) (y3 + 1) else fX2_openedBoxes_b4 fuel opened number heldKeys heldWhats y2 (y3 + 1))))

noncomputable def fX2_openedBoxes (opened : Nat → Int32) (number : Int32) (heldKeys : Nat → Int32) (heldWhats : Nat → Int32) : Option (Int32) :=
  fX2_openedBoxes_b4 6000 opened number heldKeys heldWhats 0 0
set_option maxHeartbeats 1000000 in
set_option maxRecDepth 100000 in
theorem mX2_openedBoxes (l : Launch) (dC : Nat → ClassId) (dI : Nat → Nat → Nat) (cyI cyO cyL : ClassId) (o0 o1 o2 o3 o4 w0 w1 w2 w3 w4 w5 w6 w7 w8 w9 w10 : Nat) (startMakes : Nat → Int32) (opened : Nat → Int32) (number : Int32) (heldKeys : Nat → Int32) (heldWhats : Nat → Int32) (closers : Nat → Int32) (closerMakes : Nat → Int32) (stands : Nat → Int32)  (sz : Nat) (res : Int32) (h : fX2_openedBoxes opened number heldKeys heldWhats = some res) : Met l yX2_openedBoxes (wsG yX2_openedBoxes cX2_openedBoxes 4 (some .int)) ({ frames := 2, cells := 0, slots := 0, locals := 42 }) (cP dC dI cyI cyO cyL sz [.ref o0, .ref w0] ((openW cyI o0 o1 o2 o3 o4 startMakes opened) ++ (wrapsW cyI w0 w1 w2 w3 w4 w5 w6 w7 w8 w9 w10 number heldKeys heldWhats closers closerMakes stands))) (cI dC dI res ((openW cyI o0 o1 o2 o3 o4 startMakes opened) ++ (wrapsW cyI w0 w1 w2 w3 w4 w5 w6 w7 w8 w9 w10 number heldKeys heldWhats closers closerMakes stands)) (va_A ((openW cyI o0 o1 o2 o3 o4 startMakes opened) ++ (wrapsW cyI w0 w1 w2 w3 w4 w5 w6 w7 w8 w9 w10 number heldKeys heldWhats closers closerMakes stands)) sz)) 0 0 (va_A ((openW cyI o0 o1 o2 o3 o4 startMakes opened) ++ (wrapsW cyI w0 w1 w2 w3 w4 w5 w6 w7 w8 w9 w10 number heldKeys heldWhats closers closerMakes stands)) sz) := by
  refine Met.ofW (cc := cX2_openedBoxes) (maxL := 4) (ret := (some .int)) (by decide) rfl ?_
  intro p e s m args below meth c s₁ B hml hv
  obtain ⟨rfl, hsz, hP, hK, hD0⟩ := hv
  have hx := B.exec
  have hb := B.bytes
  have hr := B.returns
  have hts := atoms_spec (ws := wsG yX2_openedBoxes cX2_openedBoxes 4 (some .int)) B.pre
  have hown : s.vm.findClass RX2 = some m.cls := findClass_of_methodNamed B.named
  have hlocks := B.notSynchronized
  subst hsz
  have hD := hD0.self (sz := s.heap.size)
  generalize hAe : va_A ((openW cyI o0 o1 o2 o3 o4 startMakes opened) ++ (wrapsW cyI w0 w1 w2 w3 w4 w5 w6 w7 w8 w9 w10 number heldKeys heldWhats closers closerMakes stands)) s.heap.size = A at hD ⊢
  have hA : ∀ q : Nat, s.heap.size ≤ q → A q := fun q h => by rw [← hAe]; exact Or.inr h
  have hS : va_S A s.heap s.heap [] := va_S.rf
  have kB4 : ∀ (fuel : Nat) (opened : Nat → Int32) (number : Int32) (heldKeys : Nat → Int32) (heldWhats : Nat → Int32) (y2 : Int32) (y3 : Int32), fX2_openedBoxes_b4 fuel opened number heldKeys heldWhats y2 y3 = some res → ∀ (H : Heap) (locs : List Loc), va_P (dC, dI) vwCl ((openW cyI o0 o1 o2 o3 o4 startMakes opened) ++ (wrapsW cyI w0 w1 w2 w3 w4 w5 w6 w7 w8 w9 w10 number heldKeys heldWhats closers closerMakes stands)) H → va_D A ((openW cyI o0 o1 o2 o3 o4 startMakes opened) ++ (wrapsW cyI w0 w1 w2 w3 w4 w5 w6 w7 w8 w9 w10 number heldKeys heldWhats closers closerMakes stands)) → va_S A s.heap H locs → ∀ ls : Array Slot, lv_has ls 4 [(0, .ref o0), (1, .ref w0), (2, .int y2), (3, .int y3)] → W p l e (headSpec (wsG yX2_openedBoxes cX2_openedBoxes 4 (some .int)) ({ frames := 2, cells := 0, slots := 0, locals := 42 })).room s m (([.ref o0, .ref w0] : List Value).toArray) below meth c H locs 0 0 (MQ below (cI dC dI res ((openW cyI o0 o1 o2 o3 o4 startMakes opened) ++ (wrapsW cyI w0 w1 w2 w3 w4 w5 w6 w7 w8 w9 w10 number heldKeys heldWhats closers closerMakes stands)) A) ([.ref o0, .ref w0] : List Value).toArray s 0 0 A) (F0 m 4 ls []) := by
    intro fuel
    induction fuel with
    | zero => intro opened number heldKeys heldWhats y2 y3 h; rw [fX2_openedBoxes_b4] at h; cases h
    | succ fuel ih =>
      intro opened number heldKeys heldWhats y2 y3 h H locs hP hD hS ls hl
      rw [fX2_openedBoxes_b4] at h
      refine lv_iload_n hx hb dX2_openedBoxes_4 rfl (lv_at hl 3 rfl) ?_
      refine lv_aload_n hx hb dX2_openedBoxes_5 rfl (lv_at hl 1 rfl) ?_
      refine va_getN (D := (dC, dI)) (ci := 6) (v := .int number) (C := RX6) (T := TX6) (N := 6) hx hb hts (fun w h9 => gb_mem (lay_X6 w h9)) hown hK.1 hP 5 rfl rfl 0 (by decide) (va_Nw.use rfl (hK.2 _ nl_X2_73)) (fun _ h9 => h9) rfl dX2_openedBoxes_6 ?_
      refine lv_icmp_ge (tgt := 50) hx hb dX2_openedBoxes_9 (by decide) (fun c1 => ?_) (fun c1 => ?_)
      · have h := (if_pos c1).symm.trans h
        refine lv_iload_n hx hb dX2_openedBoxes_50 rfl (lv_at hl 2 rfl) ?_
        obtain rfl := Option.some.inj h
        exact e_i hx hb hr hlocks hP hS dX2_openedBoxes_51
      · have h := (if_neg c1).symm.trans h
        refine lv_aload_n hx hb dX2_openedBoxes_12 rfl (lv_at hl 0 rfl) ?_
        refine va_get (D := (dC, dI)) (ci := 2) (v := .ref o3) (C := RX2) (T := TX2) (N := 2) hx hb hts (fun w h9 => gb_mem (lay_X2 w h9)) hown hK.1 hP 0 rfl rfl 1 (by decide) (hts _ (gb_mem fl_X2_20)) (fun _ h9 => h9) rfl dX2_openedBoxes_13 ?_
        refine lv_iload_n hx hb dX2_openedBoxes_16 rfl (lv_at hl 3 rfl) ?_
        refine fr_ir (M := (rowW cyI o3 o4 120 opened)) (va_runV (As := [.int y3]) (rest := []) ⟨hx, hb, hml, hown, hts⟩ (tX4_at l dC dI cyI cyO cyL o3 o4 120 opened y3 _ (rAt 120 opened y3) rfl (by decide)) (cwV 1 hts (gV ml_X2_92 im_X4_at se_X4_at in_X4 co_X4_at) rfl rfl rfl (by decide +kernel) ⟨Nat.le_of_ble_eq_true rfl, Nat.le_of_ble_eq_true rfl⟩) (cP_V hK hP hD [3, 4] rfl rfl 3 rfl rfl) rfl rfl hl.1 rfl (lv_room (Nat.le_of_ble_eq_true rfl)) dX2_openedBoxes_17 ⟨Nat.zero_le _, Nat.zero_le _⟩) hP hD hS hA [3, 4] rfl (fun H locs hP hS => ?_)
        refine lv_if_eq (tgt := 44) hx hb dX2_openedBoxes_20 (by decide) (fun c2 => ?_) (fun c2 => ?_)
        · have h := (if_pos c2).symm.trans h
          refine lv_iinc (v := (y3 + 1)) (lv' := [(3, .int (y3 + 1)), (0, .ref o0), (1, .ref w0), (2, .int y2)]) hx hb dX2_openedBoxes_44 hl (k := 3) rfl rfl (by decide) rfl (fun ls hl => ?_)
          refine lv_goto (tgt := 4) hx hb dX2_openedBoxes_47 (by decide) ?_
          exact ih opened number heldKeys heldWhats y2 (y3 + 1) h _ _ hP hD hS ls (lv_sub hl [1, 2, 3, 0] rfl)
        · have h := (if_neg c2).symm.trans h
          refine lv_aload_n hx hb dX2_openedBoxes_23 rfl (lv_at hl 1 rfl) ?_
          refine lv_iload_n hx hb dX2_openedBoxes_24 rfl (lv_at hl 3 rfl) ?_
          refine fr_ir (M := (wrapsW cyI w0 w1 w2 w3 w4 w5 w6 w7 w8 w9 w10 number heldKeys heldWhats closers closerMakes stands)) (va_runV (As := [.int y3]) (rest := []) ⟨hx, hb, hml, hown, hts⟩ (mX6_heldKey l dC dI cyI cyO cyL w0 w1 w2 w3 w4 w5 w6 w7 w8 w9 w10 number heldKeys heldWhats closers closerMakes stands y3 _ (fX6_heldKey heldKeys y3) rfl) (cwV 1 hts (gV ml_X2_79 im_X6_heldKey se_X6_heldKey in_X6 co_X6_heldKey) rfl rfl rfl (by decide +kernel) ⟨Nat.le_of_ble_eq_true rfl, Nat.le_of_ble_eq_true rfl⟩) (cP_V hK hP hD [5, 6, 7, 8, 9, 10, 11, 12, 13, 14, 15] rfl rfl 5 rfl rfl) rfl rfl hl.1 rfl (lv_room (Nat.le_of_ble_eq_true rfl)) dX2_openedBoxes_25 ⟨Nat.zero_le _, Nat.zero_le _⟩) hP hD hS hA [5, 6, 7, 8, 9, 10, 11, 12, 13, 14, 15] rfl (fun H locs hP hS => ?_)
          refine lv_bipush (v := (-6)) hx hb dX2_openedBoxes_28 (by decide) ?_
          refine lv_icmp_ne (tgt := 44) hx hb dX2_openedBoxes_30 (by decide) (fun c3 => ?_) (fun c3 => ?_)
          · have h := (if_neg c3).symm.trans h
            refine lv_iinc (v := (y3 + 1)) (lv' := [(3, .int (y3 + 1)), (0, .ref o0), (1, .ref w0), (2, .int y2)]) hx hb dX2_openedBoxes_44 hl (k := 3) rfl rfl (by decide) rfl (fun ls hl => ?_)
            refine lv_goto (tgt := 4) hx hb dX2_openedBoxes_47 (by decide) ?_
            exact ih opened number heldKeys heldWhats y2 (y3 + 1) h _ _ hP hD hS ls (lv_sub hl [1, 2, 3, 0] rfl)
          · have h := (if_pos c3).symm.trans h
            refine lv_iload_n hx hb dX2_openedBoxes_33 rfl (lv_at hl 2 rfl) ?_
            refine lv_aload_n hx hb dX2_openedBoxes_34 rfl (lv_at hl 1 rfl) ?_
            refine lv_iload_n hx hb dX2_openedBoxes_35 rfl (lv_at hl 3 rfl) ?_
            refine fr_ir (M := (wrapsW cyI w0 w1 w2 w3 w4 w5 w6 w7 w8 w9 w10 number heldKeys heldWhats closers closerMakes stands)) (va_runV (As := [.int y3]) (rest := [.int y2]) ⟨hx, hb, hml, hown, hts⟩ (mX6_heldWhat l dC dI cyI cyO cyL w0 w1 w2 w3 w4 w5 w6 w7 w8 w9 w10 number heldKeys heldWhats closers closerMakes stands y3 _ (fX6_heldWhat heldWhats y3) rfl) (cwV 1 hts (gV ml_X2_99 im_X6_heldWhat se_X6_heldWhat in_X6 co_X6_heldWhat) rfl rfl rfl (by decide +kernel) ⟨Nat.le_of_ble_eq_true rfl, Nat.le_of_ble_eq_true rfl⟩) (cP_V hK hP hD [5, 6, 7, 8, 9, 10, 11, 12, 13, 14, 15] rfl rfl 5 rfl rfl) rfl rfl hl.1 rfl (lv_room (Nat.le_of_ble_eq_true rfl)) dX2_openedBoxes_36 ⟨Nat.zero_le _, Nat.zero_le _⟩) hP hD hS hA [5, 6, 7, 8, 9, 10, 11, 12, 13, 14, 15] rfl (fun H locs hP hS => ?_)
            refine fr_ir (M := ([] : va_W)) (va_runSN (host := "HangingKeys") (As := [.int (fX6_heldWhat heldWhats y3)]) (rest := [.int y2]) ⟨hx, hb, hml, hown, hts⟩ (mX7_setOf l dC dI cyI cyO cyL (fX6_heldWhat heldWhats y3) _ (fX7_setOf (fX6_heldWhat heldWhats y3)) rfl) ⟨va_cnB 1 hts (gW co_X7_setOf) rfl rfl rfl (hK.2 _ nl_X2_102) (hts _ (gb_mem in_X7)) (by decide +kernel) ⟨Nat.le_of_ble_eq_true rfl, Nat.le_of_ble_eq_true rfl⟩, hts _ (gb_mem st_X7_setOf), trivial⟩ (cP_S hK hP hD [] rfl rfl) rfl rfl hl.1 rfl (lv_room (Nat.le_of_ble_eq_true rfl)) dX2_openedBoxes_39 ⟨Nat.zero_le _, Nat.zero_le _⟩) hP hD hS hA [] rfl (fun H locs hP hS => ?_)
            refine lv_ior hx hb dX2_openedBoxes_42 ?_
            refine lv_istore_n (lv' := [(2, .int (y2 ||| (fX7_setOf (fX6_heldWhat heldWhats y3)))), (0, .ref o0), (1, .ref w0), (3, .int y3)]) hx hb dX2_openedBoxes_43 rfl hl (by decide) rfl (fun ls hl => ?_)
            refine lv_iinc (v := (y3 + 1)) (lv' := [(3, .int (y3 + 1)), (2, .int (y2 ||| (fX7_setOf (fX6_heldWhat heldWhats y3)))), (0, .ref o0), (1, .ref w0)]) hx hb dX2_openedBoxes_44 hl (k := 3) rfl rfl (by decide) rfl (fun ls hl => ?_)
            refine lv_goto (tgt := 4) hx hb dX2_openedBoxes_47 (by decide) ?_
            exact ih opened number heldKeys heldWhats (y2 ||| (fX7_setOf (fX6_heldWhat heldWhats y3))) (y3 + 1) h _ _ hP hD hS ls (lv_sub hl [2, 3, 1, 0] rfl)
  have hl := lv_entry ([.ref o0, .ref w0]) (n := 4) (Nat.le_of_ble_eq_true rfl)
  rw [lg_entry_eq]
  generalize (lg_sl ([.ref o0, .ref w0]) ++ List.replicate (4 - (lg_sl ([.ref o0, .ref w0])).length) Slot.unset).toArray = ls at hl ⊢
  have hl : lv_has ls 4 [(0, .ref o0), (1, .ref w0)] := hl
  unfold fX2_openedBoxes at h
  refine lv_iconst (v := 0) hx hb dX2_openedBoxes_0 (by decide) ?_
  refine lv_istore_n (lv' := [(2, .int 0), (0, .ref o0), (1, .ref w0)]) hx hb dX2_openedBoxes_1 rfl hl (by decide) rfl (fun ls hl => ?_)
  refine lv_iconst (v := 0) hx hb dX2_openedBoxes_2 (by decide) ?_
  refine lv_istore_n (lv' := [(3, .int 0), (2, .int 0), (0, .ref o0), (1, .ref w0)]) hx hb dX2_openedBoxes_3 rfl hl (by decide) rfl (fun ls hl => ?_)
  exact kB4 6000 opened number heldKeys heldWhats 0 0 h _ _ hP hD hS ls (lv_sub hl [2, 3, 1, 0] rfl)

noncomputable def fX2_boxesWith (startMakes : Nat → Int32) (opened : Nat → Int32) (liveKeys : Int32) (parents : Nat → Int32) (makes : Nat → Int32) (number : Int32) (heldKeys : Nat → Int32) (heldWhats : Nat → Int32) (closers : Nat → Int32) (closerMakes : Nat → Int32) (stands : Nat → Int32) (x2 : Int32) : Option (Int32 × (Nat → Int32) × (Nat → Int32)) :=
  ((fX2_startFromSafe startMakes liveKeys parents makes).bind fun q1 => ((fX2_openAll q1 opened number heldKeys heldWhats closers closerMakes stands (x2 ||| 8)).bind fun q3 => ((fX2_openedBoxes q3 number heldKeys heldWhats).bind fun q5 => (some (q5, q1, q3)))))
set_option maxHeartbeats 1000000 in
set_option maxRecDepth 100000 in
theorem mX2_boxesWith (l : Launch) (dC : Nat → ClassId) (dI : Nat → Nat → Nat) (cyI cyO cyL : ClassId) (o0 o1 o2 o3 o4 h0 t0 t1 t2 t3 t4 t5 t6 t7 t8 w0 w1 w2 w3 w4 w5 w6 w7 w8 w9 w10 : Nat) (startMakes : Nat → Int32) (opened : Nat → Int32) (mostWear : Int32) (keys : Int32) (boxes : Int32) (liveKeys : Int32) (liveBoxes : Int32) (parents : Nat → Int32) (makes : Nat → Int32) (wears : Nat → Int32) (keysOfBoxes : Nat → Int32) (number : Int32) (heldKeys : Nat → Int32) (heldWhats : Nat → Int32) (closers : Nat → Int32) (closerMakes : Nat → Int32) (stands : Nat → Int32) (x2 : Int32) (sz : Nat) (res : Int32 × (Nat → Int32) × (Nat → Int32)) (h : fX2_boxesWith startMakes opened liveKeys parents makes number heldKeys heldWhats closers closerMakes stands x2 = some res) : Met l yX2_boxesWith (wsG yX2_boxesWith cX2_boxesWith 3 (some .int)) ({ frames := 5, cells := 0, slots := 0, locals := 115 }) (cP dC dI cyI cyO cyL sz [.ref o0, .ref h0, .int x2] ((openW cyI o0 o1 o2 o3 o4 startMakes opened) ++ (houseW cyI h0 t0 t1 t2 t3 t4 t5 t6 t7 t8 w0 w1 w2 w3 w4 w5 w6 w7 w8 w9 w10 mostWear keys boxes liveKeys liveBoxes parents makes wears keysOfBoxes number heldKeys heldWhats closers closerMakes stands))) (cI dC dI res.1 ((openW cyI o0 o1 o2 o3 o4 res.2.1 res.2.2) ++ (houseW cyI h0 t0 t1 t2 t3 t4 t5 t6 t7 t8 w0 w1 w2 w3 w4 w5 w6 w7 w8 w9 w10 mostWear keys boxes liveKeys liveBoxes parents makes wears keysOfBoxes number heldKeys heldWhats closers closerMakes stands)) (va_A ((openW cyI o0 o1 o2 o3 o4 startMakes opened) ++ (houseW cyI h0 t0 t1 t2 t3 t4 t5 t6 t7 t8 w0 w1 w2 w3 w4 w5 w6 w7 w8 w9 w10 mostWear keys boxes liveKeys liveBoxes parents makes wears keysOfBoxes number heldKeys heldWhats closers closerMakes stands)) sz)) 0 0 (va_A ((openW cyI o0 o1 o2 o3 o4 startMakes opened) ++ (houseW cyI h0 t0 t1 t2 t3 t4 t5 t6 t7 t8 w0 w1 w2 w3 w4 w5 w6 w7 w8 w9 w10 mostWear keys boxes liveKeys liveBoxes parents makes wears keysOfBoxes number heldKeys heldWhats closers closerMakes stands)) sz) := by
  refine Met.ofW (cc := cX2_boxesWith) (maxL := 3) (ret := (some .int)) (by decide) rfl ?_
  intro p e s m args below meth c s₁ B hml hv
  obtain ⟨rfl, hsz, hP, hK, hD0⟩ := hv
  have hx := B.exec
  have hb := B.bytes
  have hr := B.returns
  have hts := atoms_spec (ws := wsG yX2_boxesWith cX2_boxesWith 3 (some .int)) B.pre
  have hown : s.vm.findClass RX2 = some m.cls := findClass_of_methodNamed B.named
  have hlocks := B.notSynchronized
  subst hsz
  have hD := hD0.self (sz := s.heap.size)
  generalize hAe : va_A ((openW cyI o0 o1 o2 o3 o4 startMakes opened) ++ (houseW cyI h0 t0 t1 t2 t3 t4 t5 t6 t7 t8 w0 w1 w2 w3 w4 w5 w6 w7 w8 w9 w10 mostWear keys boxes liveKeys liveBoxes parents makes wears keysOfBoxes number heldKeys heldWhats closers closerMakes stands)) s.heap.size = A at hD ⊢
  have hA : ∀ q : Nat, s.heap.size ≤ q → A q := fun q h => by rw [← hAe]; exact Or.inr h
  have hS : va_S A s.heap s.heap [] := va_S.rf
  have hl := lv_entry ([.ref o0, .ref h0, .int x2]) (n := 3) (Nat.le_of_ble_eq_true rfl)
  rw [lg_entry_eq]
  generalize (lg_sl ([.ref o0, .ref h0, .int x2]) ++ List.replicate (3 - (lg_sl ([.ref o0, .ref h0, .int x2])).length) Slot.unset).toArray = ls at hl ⊢
  have hl : lv_has ls 3 [(0, .ref o0), (1, .ref h0), (2, .int x2)] := hl
  unfold fX2_boxesWith at h
  refine lv_aload_n hx hb dX2_boxesWith_0 rfl (lv_at hl 1 rfl) ?_
  refine lv_ifnonnull (tgt := 6) hx hb dX2_boxesWith_1 (by decide) ?_
  refine lv_aload_n hx hb dX2_boxesWith_6 rfl (lv_at hl 0 rfl) ?_
  refine lv_aload_n hx hb dX2_boxesWith_7 rfl (lv_at hl 1 rfl) ?_
  refine va_getN (D := (dC, dI)) (ci := 1) (v := .ref t0) (C := RX1) (T := TX1) (N := 2) hx hb hts (fun w h9 => gb_mem (lay_X1 w h9)) hown hK.1 hP 5 rfl rfl 0 (by decide) (va_Nw.use rfl (hK.2 _ nl_X2_23)) (fun _ h9 => h9) rfl dX2_boxesWith_8 ?_
  obtain ⟨q1, e2, h⟩ := ob h
  refine fr_v (M := ((openW cyI o0 o1 o2 o3 o4 startMakes opened) ++ (treeW cyI t0 t1 t2 t3 t4 t5 t6 t7 t8 mostWear keys boxes liveKeys liveBoxes parents makes wears keysOfBoxes))) (M' := ((openW cyI o0 o1 o2 o3 o4 q1 opened) ++ (treeW cyI t0 t1 t2 t3 t4 t5 t6 t7 t8 mostWear keys boxes liveKeys liveBoxes parents makes wears keysOfBoxes))) (L' := ((openW cyI o0 o1 o2 o3 o4 q1 opened) ++ (houseW cyI h0 t0 t1 t2 t3 t4 t5 t6 t7 t8 w0 w1 w2 w3 w4 w5 w6 w7 w8 w9 w10 mostWear keys boxes liveKeys liveBoxes parents makes wears keysOfBoxes number heldKeys heldWhats closers closerMakes stands))) (va_runV (As := [.ref t0]) (rest := []) ⟨hx, hb, hml, hown, hts⟩ (mX2_startFromSafe l dC dI cyI cyO cyL o0 o1 o2 o3 o4 t0 t1 t2 t3 t4 t5 t6 t7 t8 startMakes opened mostWear keys boxes liveKeys liveBoxes parents makes wears keysOfBoxes _ q1 e2) (cwV 1 hts (gV ml_X2_29 im_X2_startFromSafe se_X2_startFromSafe in_X2 co_X2_startFromSafe) rfl rfl rfl (by decide +kernel) ⟨Nat.le_of_ble_eq_true rfl, Nat.le_of_ble_eq_true rfl⟩) (cP_V hK hP hD [0, 1, 2, 3, 4, 6, 7, 8, 9, 10, 11, 12, 13, 14] rfl rfl 0 rfl rfl) rfl rfl hl.1 rfl (lv_room (Nat.le_of_ble_eq_true rfl)) dX2_boxesWith_11 ⟨Nat.zero_le _, Nat.zero_le _⟩) hP hD hS hA [0, 1, 2, 3, 4, 6, 7, 8, 9, 10, 11, 12, 13, 14] rfl [(true, 0), (true, 1), (true, 2), (true, 3), (true, 4), (false, 5), (true, 5), (true, 6), (true, 7), (true, 8), (true, 9), (true, 10), (true, 11), (true, 12), (true, 13), (false, 15), (false, 16), (false, 17), (false, 18), (false, 19), (false, 20), (false, 21), (false, 22), (false, 23), (false, 24), (false, 25)] rfl rfl rfl (fun H locs hP hD hS => ?_)
  refine lv_aload_n hx hb dX2_boxesWith_14 rfl (lv_at hl 0 rfl) ?_
  refine lv_aload_n hx hb dX2_boxesWith_15 rfl (lv_at hl 1 rfl) ?_
  refine va_getN (D := (dC, dI)) (ci := 1) (v := .ref w0) (C := RX1) (T := TX1) (N := 2) hx hb hts (fun w h9 => gb_mem (lay_X1 w h9)) hown hK.1 hP 5 rfl rfl 1 (by decide) (va_Nw.use rfl (hK.2 _ nl_X2_33)) (fun _ h9 => h9) rfl dX2_boxesWith_16 ?_
  refine lv_iload_n hx hb dX2_boxesWith_19 rfl (lv_at hl 2 rfl) ?_
  refine lv_bipush (v := 8) hx hb dX2_boxesWith_20 (by decide) ?_
  refine lv_ior hx hb dX2_boxesWith_22 ?_
  obtain ⟨q3, e4, h⟩ := ob h
  refine fr_v (M := ((openW cyI o0 o1 o2 o3 o4 q1 opened) ++ (wrapsW cyI w0 w1 w2 w3 w4 w5 w6 w7 w8 w9 w10 number heldKeys heldWhats closers closerMakes stands))) (M' := ((openW cyI o0 o1 o2 o3 o4 q1 q3) ++ (wrapsW cyI w0 w1 w2 w3 w4 w5 w6 w7 w8 w9 w10 number heldKeys heldWhats closers closerMakes stands))) (L' := ((openW cyI o0 o1 o2 o3 o4 q1 q3) ++ (houseW cyI h0 t0 t1 t2 t3 t4 t5 t6 t7 t8 w0 w1 w2 w3 w4 w5 w6 w7 w8 w9 w10 mostWear keys boxes liveKeys liveBoxes parents makes wears keysOfBoxes number heldKeys heldWhats closers closerMakes stands))) (va_runV (As := [.ref w0, .int (x2 ||| 8)]) (rest := []) ⟨hx, hb, hml, hown, hts⟩ (mX2_openAll l dC dI cyI cyO cyL o0 o1 o2 o3 o4 w0 w1 w2 w3 w4 w5 w6 w7 w8 w9 w10 q1 opened number heldKeys heldWhats closers closerMakes stands (x2 ||| 8) _ q3 e4) (cwV 2 hts (gV ml_X2_37 im_X2_openAll se_X2_openAll in_X2 co_X2_openAll) rfl rfl rfl (by decide +kernel) ⟨Nat.le_of_ble_eq_true rfl, Nat.le_of_ble_eq_true rfl⟩) (cP_V hK hP hD [0, 1, 2, 3, 4, 15, 16, 17, 18, 19, 20, 21, 22, 23, 24, 25] rfl rfl 0 rfl rfl) rfl rfl hl.1 rfl (lv_room (Nat.le_of_ble_eq_true rfl)) dX2_boxesWith_23 ⟨Nat.zero_le _, Nat.zero_le _⟩) hP hD hS hA [0, 1, 2, 3, 4, 15, 16, 17, 18, 19, 20, 21, 22, 23, 24, 25] rfl [(true, 0), (true, 1), (true, 2), (true, 3), (true, 4), (false, 5), (false, 6), (false, 7), (false, 8), (false, 9), (false, 10), (false, 11), (false, 12), (false, 13), (false, 14), (true, 5), (true, 6), (true, 7), (true, 8), (true, 9), (true, 10), (true, 11), (true, 12), (true, 13), (true, 14), (true, 15)] rfl rfl rfl (fun H locs hP hD hS => ?_)
  refine lv_aload_n hx hb dX2_boxesWith_26 rfl (lv_at hl 0 rfl) ?_
  refine lv_aload_n hx hb dX2_boxesWith_27 rfl (lv_at hl 1 rfl) ?_
  refine va_getN (D := (dC, dI)) (ci := 1) (v := .ref w0) (C := RX1) (T := TX1) (N := 2) hx hb hts (fun w h9 => gb_mem (lay_X1 w h9)) hown hK.1 hP 5 rfl rfl 1 (by decide) (va_Nw.use rfl (hK.2 _ nl_X2_33)) (fun _ h9 => h9) rfl dX2_boxesWith_28 ?_
  obtain ⟨q5, e6, h⟩ := ob h
  refine fr_ir (M := ((openW cyI o0 o1 o2 o3 o4 q1 q3) ++ (wrapsW cyI w0 w1 w2 w3 w4 w5 w6 w7 w8 w9 w10 number heldKeys heldWhats closers closerMakes stands))) (va_runV (As := [.ref w0]) (rest := []) ⟨hx, hb, hml, hown, hts⟩ (mX2_openedBoxes l dC dI cyI cyO cyL o0 o1 o2 o3 o4 w0 w1 w2 w3 w4 w5 w6 w7 w8 w9 w10 q1 q3 number heldKeys heldWhats closers closerMakes stands _ q5 e6) (cwV 1 hts (gV ml_X2_41 im_X2_openedBoxes se_X2_openedBoxes in_X2 co_X2_openedBoxes) rfl rfl rfl (by decide +kernel) ⟨Nat.le_of_ble_eq_true rfl, Nat.le_of_ble_eq_true rfl⟩) (cP_V hK hP hD [0, 1, 2, 3, 4, 15, 16, 17, 18, 19, 20, 21, 22, 23, 24, 25] rfl rfl 0 rfl rfl) rfl rfl hl.1 rfl (lv_room (Nat.le_of_ble_eq_true rfl)) dX2_boxesWith_31 ⟨Nat.zero_le _, Nat.zero_le _⟩) hP hD hS hA [0, 1, 2, 3, 4, 15, 16, 17, 18, 19, 20, 21, 22, 23, 24, 25] rfl (fun H locs hP hS => ?_)
  obtain rfl := Option.some.inj h
  exact e_i hx hb hr hlocks hP hS dX2_boxesWith_34

noncomputable def fX2_canHaveKey (startMakes : Nat → Int32) (opened : Nat → Int32) (liveKeys : Int32) (parents : Nat → Int32) (makes : Nat → Int32) (number : Int32) (heldKeys : Nat → Int32) (heldWhats : Nat → Int32) (closers : Nat → Int32) (closerMakes : Nat → Int32) (stands : Nat → Int32) (x2 : Int32) (x3 : Int32) (x4 : Int32) : Option (Int32 × (Nat → Int32) × (Nat → Int32)) :=
  ((fX2_startFromSafe startMakes liveKeys parents makes).bind fun q1 => ((fX2_openAll q1 opened number heldKeys heldWhats closers closerMakes stands (x4 ||| 8)).bind fun q3 => ((fX2_isHad q1 q3 number heldKeys heldWhats x2 x3).bind fun q5 => (if q5 = 0 then some (0, q1, q3) else if q5 = 1 then some (1, q1, q3) else none))))
set_option maxHeartbeats 1000000 in
set_option maxRecDepth 100000 in
theorem mX2_canHaveKey (l : Launch) (dC : Nat → ClassId) (dI : Nat → Nat → Nat) (cyI cyO cyL : ClassId) (o0 o1 o2 o3 o4 h0 t0 t1 t2 t3 t4 t5 t6 t7 t8 w0 w1 w2 w3 w4 w5 w6 w7 w8 w9 w10 : Nat) (startMakes : Nat → Int32) (opened : Nat → Int32) (mostWear : Int32) (keys : Int32) (boxes : Int32) (liveKeys : Int32) (liveBoxes : Int32) (parents : Nat → Int32) (makes : Nat → Int32) (wears : Nat → Int32) (keysOfBoxes : Nat → Int32) (number : Int32) (heldKeys : Nat → Int32) (heldWhats : Nat → Int32) (closers : Nat → Int32) (closerMakes : Nat → Int32) (stands : Nat → Int32) (x2 : Int32) (x3 : Int32) (x4 : Int32) (sz : Nat) (res : Int32 × (Nat → Int32) × (Nat → Int32)) (h : fX2_canHaveKey startMakes opened liveKeys parents makes number heldKeys heldWhats closers closerMakes stands x2 x3 x4 = some res) : Met l yX2_canHaveKey (wsG yX2_canHaveKey cX2_canHaveKey 5 (some .boolean)) ({ frames := 5, cells := 0, slots := 0, locals := 115 }) (cP dC dI cyI cyO cyL sz [.ref o0, .ref h0, .int x2, .int x3, .int x4] ((openW cyI o0 o1 o2 o3 o4 startMakes opened) ++ (houseW cyI h0 t0 t1 t2 t3 t4 t5 t6 t7 t8 w0 w1 w2 w3 w4 w5 w6 w7 w8 w9 w10 mostWear keys boxes liveKeys liveBoxes parents makes wears keysOfBoxes number heldKeys heldWhats closers closerMakes stands))) (cI dC dI res.1 ((openW cyI o0 o1 o2 o3 o4 res.2.1 res.2.2) ++ (houseW cyI h0 t0 t1 t2 t3 t4 t5 t6 t7 t8 w0 w1 w2 w3 w4 w5 w6 w7 w8 w9 w10 mostWear keys boxes liveKeys liveBoxes parents makes wears keysOfBoxes number heldKeys heldWhats closers closerMakes stands)) (va_A ((openW cyI o0 o1 o2 o3 o4 startMakes opened) ++ (houseW cyI h0 t0 t1 t2 t3 t4 t5 t6 t7 t8 w0 w1 w2 w3 w4 w5 w6 w7 w8 w9 w10 mostWear keys boxes liveKeys liveBoxes parents makes wears keysOfBoxes number heldKeys heldWhats closers closerMakes stands)) sz)) 0 0 (va_A ((openW cyI o0 o1 o2 o3 o4 startMakes opened) ++ (houseW cyI h0 t0 t1 t2 t3 t4 t5 t6 t7 t8 w0 w1 w2 w3 w4 w5 w6 w7 w8 w9 w10 mostWear keys boxes liveKeys liveBoxes parents makes wears keysOfBoxes number heldKeys heldWhats closers closerMakes stands)) sz) := by
  refine Met.ofW (cc := cX2_canHaveKey) (maxL := 5) (ret := (some .boolean)) (by decide) rfl ?_
  intro p e s m args below meth c s₁ B hml hv
  obtain ⟨rfl, hsz, hP, hK, hD0⟩ := hv
  have hx := B.exec
  have hb := B.bytes
  have hr := B.returns
  have hts := atoms_spec (ws := wsG yX2_canHaveKey cX2_canHaveKey 5 (some .boolean)) B.pre
  have hown : s.vm.findClass RX2 = some m.cls := findClass_of_methodNamed B.named
  have hlocks := B.notSynchronized
  subst hsz
  have hD := hD0.self (sz := s.heap.size)
  generalize hAe : va_A ((openW cyI o0 o1 o2 o3 o4 startMakes opened) ++ (houseW cyI h0 t0 t1 t2 t3 t4 t5 t6 t7 t8 w0 w1 w2 w3 w4 w5 w6 w7 w8 w9 w10 mostWear keys boxes liveKeys liveBoxes parents makes wears keysOfBoxes number heldKeys heldWhats closers closerMakes stands)) s.heap.size = A at hD ⊢
  have hA : ∀ q : Nat, s.heap.size ≤ q → A q := fun q h => by rw [← hAe]; exact Or.inr h
  have hS : va_S A s.heap s.heap [] := va_S.rf
  have hl := lv_entry ([.ref o0, .ref h0, .int x2, .int x3, .int x4]) (n := 5) (Nat.le_of_ble_eq_true rfl)
  rw [lg_entry_eq]
  generalize (lg_sl ([.ref o0, .ref h0, .int x2, .int x3, .int x4]) ++ List.replicate (5 - (lg_sl ([.ref o0, .ref h0, .int x2, .int x3, .int x4])).length) Slot.unset).toArray = ls at hl ⊢
  have hl : lv_has ls 5 [(0, .ref o0), (1, .ref h0), (2, .int x2), (3, .int x3), (4, .int x4)] := hl
  unfold fX2_canHaveKey at h
  refine lv_aload_n hx hb dX2_canHaveKey_0 rfl (lv_at hl 1 rfl) ?_
  refine lv_ifnonnull (tgt := 6) hx hb dX2_canHaveKey_1 (by decide) ?_
  refine lv_aload_n hx hb dX2_canHaveKey_6 rfl (lv_at hl 0 rfl) ?_
  refine lv_aload_n hx hb dX2_canHaveKey_7 rfl (lv_at hl 1 rfl) ?_
  refine va_getN (D := (dC, dI)) (ci := 1) (v := .ref t0) (C := RX1) (T := TX1) (N := 2) hx hb hts (fun w h9 => gb_mem (lay_X1 w h9)) hown hK.1 hP 5 rfl rfl 0 (by decide) (va_Nw.use rfl (hK.2 _ nl_X2_23)) (fun _ h9 => h9) rfl dX2_canHaveKey_8 ?_
  obtain ⟨q1, e2, h⟩ := ob h
  refine fr_v (M := ((openW cyI o0 o1 o2 o3 o4 startMakes opened) ++ (treeW cyI t0 t1 t2 t3 t4 t5 t6 t7 t8 mostWear keys boxes liveKeys liveBoxes parents makes wears keysOfBoxes))) (M' := ((openW cyI o0 o1 o2 o3 o4 q1 opened) ++ (treeW cyI t0 t1 t2 t3 t4 t5 t6 t7 t8 mostWear keys boxes liveKeys liveBoxes parents makes wears keysOfBoxes))) (L' := ((openW cyI o0 o1 o2 o3 o4 q1 opened) ++ (houseW cyI h0 t0 t1 t2 t3 t4 t5 t6 t7 t8 w0 w1 w2 w3 w4 w5 w6 w7 w8 w9 w10 mostWear keys boxes liveKeys liveBoxes parents makes wears keysOfBoxes number heldKeys heldWhats closers closerMakes stands))) (va_runV (As := [.ref t0]) (rest := []) ⟨hx, hb, hml, hown, hts⟩ (mX2_startFromSafe l dC dI cyI cyO cyL o0 o1 o2 o3 o4 t0 t1 t2 t3 t4 t5 t6 t7 t8 startMakes opened mostWear keys boxes liveKeys liveBoxes parents makes wears keysOfBoxes _ q1 e2) (cwV 1 hts (gV ml_X2_29 im_X2_startFromSafe se_X2_startFromSafe in_X2 co_X2_startFromSafe) rfl rfl rfl (by decide +kernel) ⟨Nat.le_of_ble_eq_true rfl, Nat.le_of_ble_eq_true rfl⟩) (cP_V hK hP hD [0, 1, 2, 3, 4, 6, 7, 8, 9, 10, 11, 12, 13, 14] rfl rfl 0 rfl rfl) rfl rfl hl.1 rfl (lv_room (Nat.le_of_ble_eq_true rfl)) dX2_canHaveKey_11 ⟨Nat.zero_le _, Nat.zero_le _⟩) hP hD hS hA [0, 1, 2, 3, 4, 6, 7, 8, 9, 10, 11, 12, 13, 14] rfl [(true, 0), (true, 1), (true, 2), (true, 3), (true, 4), (false, 5), (true, 5), (true, 6), (true, 7), (true, 8), (true, 9), (true, 10), (true, 11), (true, 12), (true, 13), (false, 15), (false, 16), (false, 17), (false, 18), (false, 19), (false, 20), (false, 21), (false, 22), (false, 23), (false, 24), (false, 25)] rfl rfl rfl (fun H locs hP hD hS => ?_)
  refine lv_aload_n hx hb dX2_canHaveKey_14 rfl (lv_at hl 0 rfl) ?_
  refine lv_aload_n hx hb dX2_canHaveKey_15 rfl (lv_at hl 1 rfl) ?_
  refine va_getN (D := (dC, dI)) (ci := 1) (v := .ref w0) (C := RX1) (T := TX1) (N := 2) hx hb hts (fun w h9 => gb_mem (lay_X1 w h9)) hown hK.1 hP 5 rfl rfl 1 (by decide) (va_Nw.use rfl (hK.2 _ nl_X2_33)) (fun _ h9 => h9) rfl dX2_canHaveKey_16 ?_
  refine lv_iload hx hb dX2_canHaveKey_19 (lv_at hl 4 rfl) ?_
  refine lv_bipush (v := 8) hx hb dX2_canHaveKey_21 (by decide) ?_
  refine lv_ior hx hb dX2_canHaveKey_23 ?_
  obtain ⟨q3, e4, h⟩ := ob h
  refine fr_v (M := ((openW cyI o0 o1 o2 o3 o4 q1 opened) ++ (wrapsW cyI w0 w1 w2 w3 w4 w5 w6 w7 w8 w9 w10 number heldKeys heldWhats closers closerMakes stands))) (M' := ((openW cyI o0 o1 o2 o3 o4 q1 q3) ++ (wrapsW cyI w0 w1 w2 w3 w4 w5 w6 w7 w8 w9 w10 number heldKeys heldWhats closers closerMakes stands))) (L' := ((openW cyI o0 o1 o2 o3 o4 q1 q3) ++ (houseW cyI h0 t0 t1 t2 t3 t4 t5 t6 t7 t8 w0 w1 w2 w3 w4 w5 w6 w7 w8 w9 w10 mostWear keys boxes liveKeys liveBoxes parents makes wears keysOfBoxes number heldKeys heldWhats closers closerMakes stands))) (va_runV (As := [.ref w0, .int (x4 ||| 8)]) (rest := []) ⟨hx, hb, hml, hown, hts⟩ (mX2_openAll l dC dI cyI cyO cyL o0 o1 o2 o3 o4 w0 w1 w2 w3 w4 w5 w6 w7 w8 w9 w10 q1 opened number heldKeys heldWhats closers closerMakes stands (x4 ||| 8) _ q3 e4) (cwV 2 hts (gV ml_X2_37 im_X2_openAll se_X2_openAll in_X2 co_X2_openAll) rfl rfl rfl (by decide +kernel) ⟨Nat.le_of_ble_eq_true rfl, Nat.le_of_ble_eq_true rfl⟩) (cP_V hK hP hD [0, 1, 2, 3, 4, 15, 16, 17, 18, 19, 20, 21, 22, 23, 24, 25] rfl rfl 0 rfl rfl) rfl rfl hl.1 rfl (lv_room (Nat.le_of_ble_eq_true rfl)) dX2_canHaveKey_24 ⟨Nat.zero_le _, Nat.zero_le _⟩) hP hD hS hA [0, 1, 2, 3, 4, 15, 16, 17, 18, 19, 20, 21, 22, 23, 24, 25] rfl [(true, 0), (true, 1), (true, 2), (true, 3), (true, 4), (false, 5), (false, 6), (false, 7), (false, 8), (false, 9), (false, 10), (false, 11), (false, 12), (false, 13), (false, 14), (true, 5), (true, 6), (true, 7), (true, 8), (true, 9), (true, 10), (true, 11), (true, 12), (true, 13), (true, 14), (true, 15)] rfl rfl rfl (fun H locs hP hD hS => ?_)
  refine lv_aload_n hx hb dX2_canHaveKey_27 rfl (lv_at hl 0 rfl) ?_
  refine lv_aload_n hx hb dX2_canHaveKey_28 rfl (lv_at hl 1 rfl) ?_
  refine va_getN (D := (dC, dI)) (ci := 1) (v := .ref w0) (C := RX1) (T := TX1) (N := 2) hx hb hts (fun w h9 => gb_mem (lay_X1 w h9)) hown hK.1 hP 5 rfl rfl 1 (by decide) (va_Nw.use rfl (hK.2 _ nl_X2_33)) (fun _ h9 => h9) rfl dX2_canHaveKey_29 ?_
  refine lv_iload_n hx hb dX2_canHaveKey_32 rfl (lv_at hl 2 rfl) ?_
  refine lv_iload_n hx hb dX2_canHaveKey_33 rfl (lv_at hl 3 rfl) ?_
  obtain ⟨q5, e6, h⟩ := ob h
  refine fr_ir (M := ((openW cyI o0 o1 o2 o3 o4 q1 q3) ++ (wrapsW cyI w0 w1 w2 w3 w4 w5 w6 w7 w8 w9 w10 number heldKeys heldWhats closers closerMakes stands))) (va_runV (As := [.ref w0, .int x2, .int x3]) (rest := []) ⟨hx, hb, hml, hown, hts⟩ (mX2_isHad l dC dI cyI cyO cyL o0 o1 o2 o3 o4 w0 w1 w2 w3 w4 w5 w6 w7 w8 w9 w10 q1 q3 number heldKeys heldWhats closers closerMakes stands x2 x3 _ q5 e6) (cwV 3 hts (gV ml_X2_45 im_X2_isHad se_X2_isHad in_X2 co_X2_isHad) rfl rfl rfl (by decide +kernel) ⟨Nat.le_of_ble_eq_true rfl, Nat.le_of_ble_eq_true rfl⟩) (cP_V hK hP hD [0, 1, 2, 3, 4, 15, 16, 17, 18, 19, 20, 21, 22, 23, 24, 25] rfl rfl 0 rfl rfl) rfl rfl hl.1 rfl (lv_room (Nat.le_of_ble_eq_true rfl)) dX2_canHaveKey_34 ⟨Nat.zero_le _, Nat.zero_le _⟩) hP hD hS hA [0, 1, 2, 3, 4, 15, 16, 17, 18, 19, 20, 21, 22, 23, 24, 25] rfl (fun H locs hP hS => ?_)
  by_cases c7 : q5 = 0
  · have h := (if_pos c7).symm.trans h
    obtain rfl := Option.some.inj h
    rw [c7]
    exact e_z (v := 0) hx hb hr hlocks rfl hP hS dX2_canHaveKey_37
  · have h := (if_neg c7).symm.trans h
    by_cases c8 : q5 = 1
    · have h := (if_pos c8).symm.trans h
      obtain rfl := Option.some.inj h
      rw [c8]
      exact e_z (v := 1) hx hb hr hlocks rfl hP hS dX2_canHaveKey_37
    · have h := (if_neg c8).symm.trans h
      cases h

noncomputable def fX2_boxesByLeak (startMakes : Nat → Int32) (opened : Nat → Int32) (number : Int32) (heldKeys : Nat → Int32) (heldWhats : Nat → Int32) (closers : Nat → Int32) (closerMakes : Nat → Int32) (stands : Nat → Int32) (x2 : Int32) (x3 : Int32) (x4 : Int32) : Option (Int32 × (Nat → Int32) × (Nat → Int32)) :=
  ((fX2_openAll (rSet 20 (rFill 20 startMakes (-6)) x2 x3) opened number heldKeys heldWhats closers closerMakes stands x4).bind fun q1 => ((fX2_openedBoxes q1 number heldKeys heldWhats).bind fun q3 => (some (q3, (rSet 20 (rFill 20 startMakes (-6)) x2 x3), q1))))
set_option maxHeartbeats 1000000 in
set_option maxRecDepth 100000 in
theorem mX2_boxesByLeak (l : Launch) (dC : Nat → ClassId) (dI : Nat → Nat → Nat) (cyI cyO cyL : ClassId) (o0 o1 o2 o3 o4 h0 t0 t1 t2 t3 t4 t5 t6 t7 t8 w0 w1 w2 w3 w4 w5 w6 w7 w8 w9 w10 : Nat) (startMakes : Nat → Int32) (opened : Nat → Int32) (mostWear : Int32) (keys : Int32) (boxes : Int32) (liveKeys : Int32) (liveBoxes : Int32) (parents : Nat → Int32) (makes : Nat → Int32) (wears : Nat → Int32) (keysOfBoxes : Nat → Int32) (number : Int32) (heldKeys : Nat → Int32) (heldWhats : Nat → Int32) (closers : Nat → Int32) (closerMakes : Nat → Int32) (stands : Nat → Int32) (x2 : Int32) (x3 : Int32) (x4 : Int32) (sz : Nat) (res : Int32 × (Nat → Int32) × (Nat → Int32)) (h : fX2_boxesByLeak startMakes opened number heldKeys heldWhats closers closerMakes stands x2 x3 x4 = some res) : Met l yX2_boxesByLeak (wsG yX2_boxesByLeak cX2_boxesByLeak 5 (some .int)) ({ frames := 5, cells := 0, slots := 0, locals := 115 }) (cP dC dI cyI cyO cyL sz [.ref o0, .ref h0, .int x2, .int x3, .int x4] ((openW cyI o0 o1 o2 o3 o4 startMakes opened) ++ (houseW cyI h0 t0 t1 t2 t3 t4 t5 t6 t7 t8 w0 w1 w2 w3 w4 w5 w6 w7 w8 w9 w10 mostWear keys boxes liveKeys liveBoxes parents makes wears keysOfBoxes number heldKeys heldWhats closers closerMakes stands))) (cI dC dI res.1 ((openW cyI o0 o1 o2 o3 o4 res.2.1 res.2.2) ++ (houseW cyI h0 t0 t1 t2 t3 t4 t5 t6 t7 t8 w0 w1 w2 w3 w4 w5 w6 w7 w8 w9 w10 mostWear keys boxes liveKeys liveBoxes parents makes wears keysOfBoxes number heldKeys heldWhats closers closerMakes stands)) (va_A ((openW cyI o0 o1 o2 o3 o4 startMakes opened) ++ (houseW cyI h0 t0 t1 t2 t3 t4 t5 t6 t7 t8 w0 w1 w2 w3 w4 w5 w6 w7 w8 w9 w10 mostWear keys boxes liveKeys liveBoxes parents makes wears keysOfBoxes number heldKeys heldWhats closers closerMakes stands)) sz)) 0 0 (va_A ((openW cyI o0 o1 o2 o3 o4 startMakes opened) ++ (houseW cyI h0 t0 t1 t2 t3 t4 t5 t6 t7 t8 w0 w1 w2 w3 w4 w5 w6 w7 w8 w9 w10 mostWear keys boxes liveKeys liveBoxes parents makes wears keysOfBoxes number heldKeys heldWhats closers closerMakes stands)) sz) := by
  refine Met.ofW (cc := cX2_boxesByLeak) (maxL := 5) (ret := (some .int)) (by decide) rfl ?_
  intro p e s m args below meth c s₁ B hml hv
  obtain ⟨rfl, hsz, hP, hK, hD0⟩ := hv
  have hx := B.exec
  have hb := B.bytes
  have hr := B.returns
  have hts := atoms_spec (ws := wsG yX2_boxesByLeak cX2_boxesByLeak 5 (some .int)) B.pre
  have hown : s.vm.findClass RX2 = some m.cls := findClass_of_methodNamed B.named
  have hlocks := B.notSynchronized
  subst hsz
  have hD := hD0.self (sz := s.heap.size)
  generalize hAe : va_A ((openW cyI o0 o1 o2 o3 o4 startMakes opened) ++ (houseW cyI h0 t0 t1 t2 t3 t4 t5 t6 t7 t8 w0 w1 w2 w3 w4 w5 w6 w7 w8 w9 w10 mostWear keys boxes liveKeys liveBoxes parents makes wears keysOfBoxes number heldKeys heldWhats closers closerMakes stands)) s.heap.size = A at hD ⊢
  have hA : ∀ q : Nat, s.heap.size ≤ q → A q := fun q h => by rw [← hAe]; exact Or.inr h
  have hS : va_S A s.heap s.heap [] := va_S.rf
  have hl := lv_entry ([.ref o0, .ref h0, .int x2, .int x3, .int x4]) (n := 5) (Nat.le_of_ble_eq_true rfl)
  rw [lg_entry_eq]
  generalize (lg_sl ([.ref o0, .ref h0, .int x2, .int x3, .int x4]) ++ List.replicate (5 - (lg_sl ([.ref o0, .ref h0, .int x2, .int x3, .int x4])).length) Slot.unset).toArray = ls at hl ⊢
  have hl : lv_has ls 5 [(0, .ref o0), (1, .ref h0), (2, .int x2), (3, .int x3), (4, .int x4)] := hl
  unfold fX2_boxesByLeak at h
  refine lv_aload_n hx hb dX2_boxesByLeak_0 rfl (lv_at hl 1 rfl) ?_
  refine lv_ifnonnull (tgt := 6) hx hb dX2_boxesByLeak_1 (by decide) ?_
  refine lv_aload_n hx hb dX2_boxesByLeak_6 rfl (lv_at hl 0 rfl) ?_
  refine va_get (D := (dC, dI)) (ci := 2) (v := .ref o1) (C := RX2) (T := TX2) (N := 2) hx hb hts (fun w h9 => gb_mem (lay_X2 w h9)) hown hK.1 hP 0 rfl rfl 0 (by decide) (hts _ (gb_mem fl_X2_14)) (fun _ h9 => h9) rfl dX2_boxesByLeak_7 ?_
  refine lv_bipush (v := (-6)) hx hb dX2_boxesByLeak_10 (by decide) ?_
  refine fr_v (M := (rowW cyI o1 o2 20 startMakes)) (M' := (rowW cyI o1 o2 20 (rFill 20 startMakes (-6)))) (L' := ((openW cyI o0 o1 o2 o3 o4 (rFill 20 startMakes (-6)) opened) ++ (houseW cyI h0 t0 t1 t2 t3 t4 t5 t6 t7 t8 w0 w1 w2 w3 w4 w5 w6 w7 w8 w9 w10 mostWear keys boxes liveKeys liveBoxes parents makes wears keysOfBoxes number heldKeys heldWhats closers closerMakes stands))) (va_runV (As := [.int (-6)]) (rest := []) ⟨hx, hb, hml, hown, hts⟩ (tX4_fill l dC dI cyI cyO cyL o1 o2 20 startMakes (-6) _ (rFill 20 startMakes (-6)) rfl (by decide)) (cwV 1 hts (gV ml_X2_49 im_X4_fill se_X4_fill in_X4 co_X4_fill) rfl rfl rfl (by decide +kernel) ⟨Nat.le_of_ble_eq_true rfl, Nat.le_of_ble_eq_true rfl⟩) (cP_V hK hP hD [1, 2] rfl rfl 1 rfl rfl) rfl rfl hl.1 rfl (lv_room (Nat.le_of_ble_eq_true rfl)) dX2_boxesByLeak_12 ⟨Nat.zero_le _, Nat.zero_le _⟩) hP hD hS hA [1, 2] rfl [(false, 0), (true, 0), (true, 1), (false, 3), (false, 4), (false, 5), (false, 6), (false, 7), (false, 8), (false, 9), (false, 10), (false, 11), (false, 12), (false, 13), (false, 14), (false, 15), (false, 16), (false, 17), (false, 18), (false, 19), (false, 20), (false, 21), (false, 22), (false, 23), (false, 24), (false, 25)] rfl rfl rfl (fun H locs hP hD hS => ?_)
  refine lv_aload_n hx hb dX2_boxesByLeak_15 rfl (lv_at hl 0 rfl) ?_
  refine va_get (D := (dC, dI)) (ci := 2) (v := .ref o1) (C := RX2) (T := TX2) (N := 2) hx hb hts (fun w h9 => gb_mem (lay_X2 w h9)) hown hK.1 hP 0 rfl rfl 0 (by decide) (hts _ (gb_mem fl_X2_14)) (fun _ h9 => h9) rfl dX2_boxesByLeak_16 ?_
  refine lv_iload_n hx hb dX2_boxesByLeak_19 rfl (lv_at hl 2 rfl) ?_
  refine lv_iload_n hx hb dX2_boxesByLeak_20 rfl (lv_at hl 3 rfl) ?_
  refine fr_v (M := (rowW cyI o1 o2 20 (rFill 20 startMakes (-6)))) (M' := (rowW cyI o1 o2 20 (rSet 20 (rFill 20 startMakes (-6)) x2 x3))) (L' := ((openW cyI o0 o1 o2 o3 o4 (rSet 20 (rFill 20 startMakes (-6)) x2 x3) opened) ++ (houseW cyI h0 t0 t1 t2 t3 t4 t5 t6 t7 t8 w0 w1 w2 w3 w4 w5 w6 w7 w8 w9 w10 mostWear keys boxes liveKeys liveBoxes parents makes wears keysOfBoxes number heldKeys heldWhats closers closerMakes stands))) (va_runV (As := [.int x2, .int x3]) (rest := []) ⟨hx, hb, hml, hown, hts⟩ (tX4_set l dC dI cyI cyO cyL o1 o2 20 (rFill 20 startMakes (-6)) x2 x3 _ (rSet 20 (rFill 20 startMakes (-6)) x2 x3) rfl (by decide)) (cwV 2 hts (gV ml_X2_52 im_X4_set se_X4_set in_X4 co_X4_set) rfl rfl rfl (by decide +kernel) ⟨Nat.le_of_ble_eq_true rfl, Nat.le_of_ble_eq_true rfl⟩) (cP_V hK hP hD [1, 2] rfl rfl 1 rfl rfl) rfl rfl hl.1 rfl (lv_room (Nat.le_of_ble_eq_true rfl)) dX2_boxesByLeak_21 ⟨Nat.zero_le _, Nat.zero_le _⟩) hP hD hS hA [1, 2] rfl [(false, 0), (true, 0), (true, 1), (false, 3), (false, 4), (false, 5), (false, 6), (false, 7), (false, 8), (false, 9), (false, 10), (false, 11), (false, 12), (false, 13), (false, 14), (false, 15), (false, 16), (false, 17), (false, 18), (false, 19), (false, 20), (false, 21), (false, 22), (false, 23), (false, 24), (false, 25)] rfl rfl rfl (fun H locs hP hD hS => ?_)
  refine lv_aload_n hx hb dX2_boxesByLeak_24 rfl (lv_at hl 0 rfl) ?_
  refine lv_aload_n hx hb dX2_boxesByLeak_25 rfl (lv_at hl 1 rfl) ?_
  refine va_getN (D := (dC, dI)) (ci := 1) (v := .ref w0) (C := RX1) (T := TX1) (N := 2) hx hb hts (fun w h9 => gb_mem (lay_X1 w h9)) hown hK.1 hP 5 rfl rfl 1 (by decide) (va_Nw.use rfl (hK.2 _ nl_X2_33)) (fun _ h9 => h9) rfl dX2_boxesByLeak_26 ?_
  refine lv_iload hx hb dX2_boxesByLeak_29 (lv_at hl 4 rfl) ?_
  obtain ⟨q1, e2, h⟩ := ob h
  refine fr_v (M := ((openW cyI o0 o1 o2 o3 o4 (rSet 20 (rFill 20 startMakes (-6)) x2 x3) opened) ++ (wrapsW cyI w0 w1 w2 w3 w4 w5 w6 w7 w8 w9 w10 number heldKeys heldWhats closers closerMakes stands))) (M' := ((openW cyI o0 o1 o2 o3 o4 (rSet 20 (rFill 20 startMakes (-6)) x2 x3) q1) ++ (wrapsW cyI w0 w1 w2 w3 w4 w5 w6 w7 w8 w9 w10 number heldKeys heldWhats closers closerMakes stands))) (L' := ((openW cyI o0 o1 o2 o3 o4 (rSet 20 (rFill 20 startMakes (-6)) x2 x3) q1) ++ (houseW cyI h0 t0 t1 t2 t3 t4 t5 t6 t7 t8 w0 w1 w2 w3 w4 w5 w6 w7 w8 w9 w10 mostWear keys boxes liveKeys liveBoxes parents makes wears keysOfBoxes number heldKeys heldWhats closers closerMakes stands))) (va_runV (As := [.ref w0, .int x4]) (rest := []) ⟨hx, hb, hml, hown, hts⟩ (mX2_openAll l dC dI cyI cyO cyL o0 o1 o2 o3 o4 w0 w1 w2 w3 w4 w5 w6 w7 w8 w9 w10 (rSet 20 (rFill 20 startMakes (-6)) x2 x3) opened number heldKeys heldWhats closers closerMakes stands x4 _ q1 e2) (cwV 2 hts (gV ml_X2_37 im_X2_openAll se_X2_openAll in_X2 co_X2_openAll) rfl rfl rfl (by decide +kernel) ⟨Nat.le_of_ble_eq_true rfl, Nat.le_of_ble_eq_true rfl⟩) (cP_V hK hP hD [0, 1, 2, 3, 4, 15, 16, 17, 18, 19, 20, 21, 22, 23, 24, 25] rfl rfl 0 rfl rfl) rfl rfl hl.1 rfl (lv_room (Nat.le_of_ble_eq_true rfl)) dX2_boxesByLeak_31 ⟨Nat.zero_le _, Nat.zero_le _⟩) hP hD hS hA [0, 1, 2, 3, 4, 15, 16, 17, 18, 19, 20, 21, 22, 23, 24, 25] rfl [(true, 0), (true, 1), (true, 2), (true, 3), (true, 4), (false, 5), (false, 6), (false, 7), (false, 8), (false, 9), (false, 10), (false, 11), (false, 12), (false, 13), (false, 14), (true, 5), (true, 6), (true, 7), (true, 8), (true, 9), (true, 10), (true, 11), (true, 12), (true, 13), (true, 14), (true, 15)] rfl rfl rfl (fun H locs hP hD hS => ?_)
  refine lv_aload_n hx hb dX2_boxesByLeak_34 rfl (lv_at hl 0 rfl) ?_
  refine lv_aload_n hx hb dX2_boxesByLeak_35 rfl (lv_at hl 1 rfl) ?_
  refine va_getN (D := (dC, dI)) (ci := 1) (v := .ref w0) (C := RX1) (T := TX1) (N := 2) hx hb hts (fun w h9 => gb_mem (lay_X1 w h9)) hown hK.1 hP 5 rfl rfl 1 (by decide) (va_Nw.use rfl (hK.2 _ nl_X2_33)) (fun _ h9 => h9) rfl dX2_boxesByLeak_36 ?_
  obtain ⟨q3, e4, h⟩ := ob h
  refine fr_ir (M := ((openW cyI o0 o1 o2 o3 o4 (rSet 20 (rFill 20 startMakes (-6)) x2 x3) q1) ++ (wrapsW cyI w0 w1 w2 w3 w4 w5 w6 w7 w8 w9 w10 number heldKeys heldWhats closers closerMakes stands))) (va_runV (As := [.ref w0]) (rest := []) ⟨hx, hb, hml, hown, hts⟩ (mX2_openedBoxes l dC dI cyI cyO cyL o0 o1 o2 o3 o4 w0 w1 w2 w3 w4 w5 w6 w7 w8 w9 w10 (rSet 20 (rFill 20 startMakes (-6)) x2 x3) q1 number heldKeys heldWhats closers closerMakes stands _ q3 e4) (cwV 1 hts (gV ml_X2_41 im_X2_openedBoxes se_X2_openedBoxes in_X2 co_X2_openedBoxes) rfl rfl rfl (by decide +kernel) ⟨Nat.le_of_ble_eq_true rfl, Nat.le_of_ble_eq_true rfl⟩) (cP_V hK hP hD [0, 1, 2, 3, 4, 15, 16, 17, 18, 19, 20, 21, 22, 23, 24, 25] rfl rfl 0 rfl rfl) rfl rfl hl.1 rfl (lv_room (Nat.le_of_ble_eq_true rfl)) dX2_boxesByLeak_39 ⟨Nat.zero_le _, Nat.zero_le _⟩) hP hD hS hA [0, 1, 2, 3, 4, 15, 16, 17, 18, 19, 20, 21, 22, 23, 24, 25] rfl (fun H locs hP hS => ?_)
  obtain rfl := Option.some.inj h
  exact e_i hx hb hr hlocks hP hS dX2_boxesByLeak_42
