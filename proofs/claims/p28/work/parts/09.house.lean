/-! House -/

noncomputable def fX1_changeWear (mostWear : Int32) (x1 : Int32) : Option (Int32 × Int32) :=
  (if x1 < 2 then (some ((-2), mostWear)) else (if x1 ≤ 30 then (some (mostWear, x1)) else (some ((-2), mostWear))))
set_option maxHeartbeats 1000000 in
set_option maxRecDepth 100000 in
theorem mX1_changeWear (l : Launch) (dC : Nat → ClassId) (dI : Nat → Nat → Nat) (cyI cyO cyL : ClassId) (h0 t0 t1 t2 t3 t4 t5 t6 t7 t8 w0 w1 w2 w3 w4 w5 w6 w7 w8 w9 w10 : Nat) (mostWear : Int32) (keys : Int32) (boxes : Int32) (liveKeys : Int32) (liveBoxes : Int32) (parents : Nat → Int32) (makes : Nat → Int32) (wears : Nat → Int32) (keysOfBoxes : Nat → Int32) (number : Int32) (heldKeys : Nat → Int32) (heldWhats : Nat → Int32) (closers : Nat → Int32) (closerMakes : Nat → Int32) (stands : Nat → Int32) (x1 : Int32) (sz : Nat) (res : Int32 × Int32) (h : fX1_changeWear mostWear x1 = some res) : Met l yX1_changeWear (wsG yX1_changeWear cX1_changeWear 3 (some .int)) ({ frames := 0, cells := 0, slots := 0, locals := 0 }) (cP dC dI cyI cyO cyL sz [.ref h0, .int x1] (houseW cyI h0 t0 t1 t2 t3 t4 t5 t6 t7 t8 w0 w1 w2 w3 w4 w5 w6 w7 w8 w9 w10 mostWear keys boxes liveKeys liveBoxes parents makes wears keysOfBoxes number heldKeys heldWhats closers closerMakes stands)) (cI dC dI res.1 (houseW cyI h0 t0 t1 t2 t3 t4 t5 t6 t7 t8 w0 w1 w2 w3 w4 w5 w6 w7 w8 w9 w10 res.2 keys boxes liveKeys liveBoxes parents makes wears keysOfBoxes number heldKeys heldWhats closers closerMakes stands) (va_A (houseW cyI h0 t0 t1 t2 t3 t4 t5 t6 t7 t8 w0 w1 w2 w3 w4 w5 w6 w7 w8 w9 w10 mostWear keys boxes liveKeys liveBoxes parents makes wears keysOfBoxes number heldKeys heldWhats closers closerMakes stands) sz)) 0 0 (va_A (houseW cyI h0 t0 t1 t2 t3 t4 t5 t6 t7 t8 w0 w1 w2 w3 w4 w5 w6 w7 w8 w9 w10 mostWear keys boxes liveKeys liveBoxes parents makes wears keysOfBoxes number heldKeys heldWhats closers closerMakes stands) sz) := by
  refine Met.ofW (cc := cX1_changeWear) (maxL := 3) (ret := (some .int)) (by decide) rfl ?_
  intro p e s m args below meth c s₁ B hml hv
  obtain ⟨rfl, hsz, hP, hK, hD0⟩ := hv
  have hx := B.exec
  have hb := B.bytes
  have hr := B.returns
  have hts := atoms_spec (ws := wsG yX1_changeWear cX1_changeWear 3 (some .int)) B.pre
  have hown : s.vm.findClass RX1 = some m.cls := findClass_of_methodNamed B.named
  have hlocks := B.notSynchronized
  subst hsz
  have hD := hD0.self (sz := s.heap.size)
  generalize hAe : va_A (houseW cyI h0 t0 t1 t2 t3 t4 t5 t6 t7 t8 w0 w1 w2 w3 w4 w5 w6 w7 w8 w9 w10 mostWear keys boxes liveKeys liveBoxes parents makes wears keysOfBoxes number heldKeys heldWhats closers closerMakes stands) s.heap.size = A at hD ⊢
  have hA : ∀ q : Nat, s.heap.size ≤ q → A q := fun q h => by rw [← hAe]; exact Or.inr h
  have hS : va_S A s.heap s.heap [] := va_S.rf
  have hl := lv_entry ([.ref h0, .int x1]) (n := 3) (Nat.le_of_ble_eq_true rfl)
  rw [lg_entry_eq]
  generalize (lg_sl ([.ref h0, .int x1]) ++ List.replicate (3 - (lg_sl ([.ref h0, .int x1])).length) Slot.unset).toArray = ls at hl ⊢
  have hl : lv_has ls 3 [(0, .ref h0), (1, .int x1)] := hl
  unfold fX1_changeWear at h
  refine lv_iload_n hx hb dX1_changeWear_0 rfl (lv_at hl 1 rfl) ?_
  refine lv_iconst (v := 2) hx hb dX1_changeWear_1 (by decide) ?_
  refine lv_icmp_lt (tgt := 11) hx hb dX1_changeWear_2 (by decide) (fun c1 => ?_) (fun c1 => ?_)
  · have h := (if_pos c1).symm.trans h
    refine lv_bipush (v := (-2)) hx hb dX1_changeWear_11 (by decide) ?_
    obtain rfl := Option.some.inj h
    exact e_i hx hb hr hlocks hP hS dX1_changeWear_13
  · have h := (if_neg c1).symm.trans h
    refine lv_iload_n hx hb dX1_changeWear_5 rfl (lv_at hl 1 rfl) ?_
    refine lv_bipush (v := 30) hx hb dX1_changeWear_6 (by decide) ?_
    refine lv_icmp_le (tgt := 14) hx hb dX1_changeWear_8 (by decide) (fun c2 => ?_) (fun c2 => ?_)
    · have h := (if_pos c2).symm.trans h
      refine lv_aload_n hx hb dX1_changeWear_14 rfl (lv_at hl 0 rfl) ?_
      refine va_get (D := (dC, dI)) (ci := 1) (v := .ref t0) (C := RX1) (T := TX1) (N := 2) hx hb hts (fun w h9 => gb_mem (lay_X1 w h9)) hown hK.1 hP 0 rfl rfl 0 (by decide) (hts _ (gb_mem fl_X1_12)) (fun _ h9 => h9) rfl dX1_changeWear_15 ?_
      refine va_getN (D := (dC, dI)) (ci := 5) (v := .int mostWear) (C := RX5) (T := TX5) (N := 9) hx hb hts (fun w h9 => gb_mem (lay_X5 w h9)) hown hK.1 hP 1 rfl rfl 0 (by decide) (va_Nw.use rfl (hK.2 _ nl_X1_25)) (fun _ h9 => h9) rfl dX1_changeWear_18 ?_
      refine lv_istore_n (lv' := [(2, .int mostWear), (0, .ref h0), (1, .int x1)]) hx hb dX1_changeWear_21 rfl hl (by decide) rfl (fun ls hl => ?_)
      refine lv_aload_n hx hb dX1_changeWear_22 rfl (lv_at hl 1 rfl) ?_
      refine va_get (D := (dC, dI)) (ci := 1) (v := .ref t0) (C := RX1) (T := TX1) (N := 2) hx hb hts (fun w h9 => gb_mem (lay_X1 w h9)) hown hK.1 hP 0 rfl rfl 0 (by decide) (hts _ (gb_mem fl_X1_12)) (fun _ h9 => h9) rfl dX1_changeWear_23 ?_
      refine lv_iload_n hx hb dX1_changeWear_26 rfl (lv_at hl 2 rfl) ?_
      refine va_putN (D := (dC, dI)) (ci := 5) (v := .int x1) (ty := .int) (C := RX5) (T := TX5) (N := 9) hx hb hts (fun w h9 => gb_mem (lay_X5 w h9)) tyX5 tyX5_ok nmX5 hown hK.1 hP hD hS 1 rfl rfl 0 (by decide) (va_Nw.use rfl (hK.2 _ nl_X1_25)) (fun _ h9 => h9) rfl (by decide +kernel) rfl rfl (Nat.le_of_ble_eq_true rfl) dX1_changeWear_27 (fun H locs hP hD hS => ?_)
      have hP : va_P (dC, dI) vwCl (houseW cyI h0 t0 t1 t2 t3 t4 t5 t6 t7 t8 w0 w1 w2 w3 w4 w5 w6 w7 w8 w9 w10 x1 keys boxes liveKeys liveBoxes parents makes wears keysOfBoxes number heldKeys heldWhats closers closerMakes stands) H := hP
      have hD : va_D A (houseW cyI h0 t0 t1 t2 t3 t4 t5 t6 t7 t8 w0 w1 w2 w3 w4 w5 w6 w7 w8 w9 w10 x1 keys boxes liveKeys liveBoxes parents makes wears keysOfBoxes number heldKeys heldWhats closers closerMakes stands) := hD
      refine lv_iload_n hx hb dX1_changeWear_30 rfl (lv_at hl 0 rfl) ?_
      obtain rfl := Option.some.inj h
      exact e_i hx hb hr hlocks hP hS dX1_changeWear_31
    · have h := (if_neg c2).symm.trans h
      refine lv_bipush (v := (-2)) hx hb dX1_changeWear_11 (by decide) ?_
      obtain rfl := Option.some.inj h
      exact e_i hx hb hr hlocks hP hS dX1_changeWear_13

noncomputable def fX1_wrapKey (parents : Nat → Int32) (makes : Nat → Int32) (wears : Nat → Int32) (number : Int32) (heldKeys : Nat → Int32) (heldWhats : Nat → Int32) (closers : Nat → Int32) (closerMakes : Nat → Int32) (stands : Nat → Int32) (x1 : Int32) : Option ((Nat → Int32) × Int32 × (Nat → Int32) × (Nat → Int32) × (Nat → Int32) × (Nat → Int32) × (Nat → Int32)) :=
  ((fX6_add number heldKeys heldWhats closers closerMakes stands x1 (fX5_makeOf makes x1) (fX5_parentOf parents x1) (fX5_makeOf makes (fX5_parentOf parents x1))).bind fun q1 => (some ((fX5_wearDown wears (fX5_parentOf parents x1)), q1.1, q1.2.1, q1.2.2.1, q1.2.2.2.1, q1.2.2.2.2.1, q1.2.2.2.2.2)))
set_option maxHeartbeats 1000000 in
set_option maxRecDepth 100000 in
theorem mX1_wrapKey (l : Launch) (dC : Nat → ClassId) (dI : Nat → Nat → Nat) (cyI cyO cyL : ClassId) (h0 t0 t1 t2 t3 t4 t5 t6 t7 t8 w0 w1 w2 w3 w4 w5 w6 w7 w8 w9 w10 : Nat) (mostWear : Int32) (keys : Int32) (boxes : Int32) (liveKeys : Int32) (liveBoxes : Int32) (parents : Nat → Int32) (makes : Nat → Int32) (wears : Nat → Int32) (keysOfBoxes : Nat → Int32) (number : Int32) (heldKeys : Nat → Int32) (heldWhats : Nat → Int32) (closers : Nat → Int32) (closerMakes : Nat → Int32) (stands : Nat → Int32) (x1 : Int32) (sz : Nat) (res : (Nat → Int32) × Int32 × (Nat → Int32) × (Nat → Int32) × (Nat → Int32) × (Nat → Int32) × (Nat → Int32)) (h : fX1_wrapKey parents makes wears number heldKeys heldWhats closers closerMakes stands x1 = some res) : Met l yX1_wrapKey (wsG yX1_wrapKey cX1_wrapKey 3 none) ({ frames := 2, cells := 0, slots := 0, locals := 46 }) (cP dC dI cyI cyO cyL sz [.ref h0, .int x1] (houseW cyI h0 t0 t1 t2 t3 t4 t5 t6 t7 t8 w0 w1 w2 w3 w4 w5 w6 w7 w8 w9 w10 mostWear keys boxes liveKeys liveBoxes parents makes wears keysOfBoxes number heldKeys heldWhats closers closerMakes stands)) (cV dC dI (houseW cyI h0 t0 t1 t2 t3 t4 t5 t6 t7 t8 w0 w1 w2 w3 w4 w5 w6 w7 w8 w9 w10 mostWear keys boxes liveKeys liveBoxes parents makes res.1 keysOfBoxes res.2.1 res.2.2.1 res.2.2.2.1 res.2.2.2.2.1 res.2.2.2.2.2.1 res.2.2.2.2.2.2) (va_A (houseW cyI h0 t0 t1 t2 t3 t4 t5 t6 t7 t8 w0 w1 w2 w3 w4 w5 w6 w7 w8 w9 w10 mostWear keys boxes liveKeys liveBoxes parents makes wears keysOfBoxes number heldKeys heldWhats closers closerMakes stands) sz)) 0 0 (va_A (houseW cyI h0 t0 t1 t2 t3 t4 t5 t6 t7 t8 w0 w1 w2 w3 w4 w5 w6 w7 w8 w9 w10 mostWear keys boxes liveKeys liveBoxes parents makes wears keysOfBoxes number heldKeys heldWhats closers closerMakes stands) sz) := by
  refine Met.ofW (cc := cX1_wrapKey) (maxL := 3) (ret := none) (by decide) rfl ?_
  intro p e s m args below meth c s₁ B hml hv
  obtain ⟨rfl, hsz, hP, hK, hD0⟩ := hv
  have hx := B.exec
  have hb := B.bytes
  have hr := B.returns
  have hts := atoms_spec (ws := wsG yX1_wrapKey cX1_wrapKey 3 none) B.pre
  have hown : s.vm.findClass RX1 = some m.cls := findClass_of_methodNamed B.named
  have hlocks := B.notSynchronized
  subst hsz
  have hD := hD0.self (sz := s.heap.size)
  generalize hAe : va_A (houseW cyI h0 t0 t1 t2 t3 t4 t5 t6 t7 t8 w0 w1 w2 w3 w4 w5 w6 w7 w8 w9 w10 mostWear keys boxes liveKeys liveBoxes parents makes wears keysOfBoxes number heldKeys heldWhats closers closerMakes stands) s.heap.size = A at hD ⊢
  have hA : ∀ q : Nat, s.heap.size ≤ q → A q := fun q h => by rw [← hAe]; exact Or.inr h
  have hS : va_S A s.heap s.heap [] := va_S.rf
  have hl := lv_entry ([.ref h0, .int x1]) (n := 3) (Nat.le_of_ble_eq_true rfl)
  rw [lg_entry_eq]
  generalize (lg_sl ([.ref h0, .int x1]) ++ List.replicate (3 - (lg_sl ([.ref h0, .int x1])).length) Slot.unset).toArray = ls at hl ⊢
  have hl : lv_has ls 3 [(0, .ref h0), (1, .int x1)] := hl
  unfold fX1_wrapKey at h
  refine lv_aload_n hx hb dX1_wrapKey_0 rfl (lv_at hl 0 rfl) ?_
  refine va_get (D := (dC, dI)) (ci := 1) (v := .ref t0) (C := RX1) (T := TX1) (N := 2) hx hb hts (fun w h9 => gb_mem (lay_X1 w h9)) hown hK.1 hP 0 rfl rfl 0 (by decide) (hts _ (gb_mem fl_X1_12)) (fun _ h9 => h9) rfl dX1_wrapKey_1 ?_
  refine lv_iload_n hx hb dX1_wrapKey_4 rfl (lv_at hl 1 rfl) ?_
  refine fr_ir (M := (treeW cyI t0 t1 t2 t3 t4 t5 t6 t7 t8 mostWear keys boxes liveKeys liveBoxes parents makes wears keysOfBoxes)) (va_runV (As := [.int x1]) (rest := []) ⟨hx, hb, hml, hown, hts⟩ (mX5_parentOf l dC dI cyI cyO cyL t0 t1 t2 t3 t4 t5 t6 t7 t8 mostWear keys boxes liveKeys liveBoxes parents makes wears keysOfBoxes x1 _ (fX5_parentOf parents x1) rfl) (cwV 1 hts (gV ml_X1_83 im_X5_parentOf se_X5_parentOf in_X5 co_X5_parentOf) rfl rfl rfl (by decide +kernel) ⟨Nat.le_of_ble_eq_true rfl, Nat.le_of_ble_eq_true rfl⟩) (cP_V hK hP hD [1, 2, 3, 4, 5, 6, 7, 8, 9] rfl rfl 1 rfl rfl) rfl rfl hl.1 rfl (lv_room (Nat.le_of_ble_eq_true rfl)) dX1_wrapKey_5 ⟨Nat.zero_le _, Nat.zero_le _⟩) hP hD hS hA [1, 2, 3, 4, 5, 6, 7, 8, 9] rfl (fun H locs hP hS => ?_)
  refine lv_istore_n (lv' := [(2, .int (fX5_parentOf parents x1)), (0, .ref h0), (1, .int x1)]) hx hb dX1_wrapKey_8 rfl hl (by decide) rfl (fun ls hl => ?_)
  refine lv_aload_n hx hb dX1_wrapKey_9 rfl (lv_at hl 1 rfl) ?_
  refine va_get (D := (dC, dI)) (ci := 1) (v := .ref w0) (C := RX1) (T := TX1) (N := 2) hx hb hts (fun w h9 => gb_mem (lay_X1 w h9)) hown hK.1 hP 0 rfl rfl 1 (by decide) (hts _ (gb_mem fl_X1_21)) (fun _ h9 => h9) rfl dX1_wrapKey_10 ?_
  refine lv_iload_n hx hb dX1_wrapKey_13 rfl (lv_at hl 2 rfl) ?_
  refine lv_aload_n hx hb dX1_wrapKey_14 rfl (lv_at hl 1 rfl) ?_
  refine va_get (D := (dC, dI)) (ci := 1) (v := .ref t0) (C := RX1) (T := TX1) (N := 2) hx hb hts (fun w h9 => gb_mem (lay_X1 w h9)) hown hK.1 hP 0 rfl rfl 0 (by decide) (hts _ (gb_mem fl_X1_12)) (fun _ h9 => h9) rfl dX1_wrapKey_15 ?_
  refine lv_iload_n hx hb dX1_wrapKey_18 rfl (lv_at hl 2 rfl) ?_
  refine fr_ir (M := (treeW cyI t0 t1 t2 t3 t4 t5 t6 t7 t8 mostWear keys boxes liveKeys liveBoxes parents makes wears keysOfBoxes)) (va_runV (As := [.int x1]) (rest := [.int x1, .ref w0]) ⟨hx, hb, hml, hown, hts⟩ (mX5_makeOf l dC dI cyI cyO cyL t0 t1 t2 t3 t4 t5 t6 t7 t8 mostWear keys boxes liveKeys liveBoxes parents makes wears keysOfBoxes x1 _ (fX5_makeOf makes x1) rfl) (cwV 1 hts (gV ml_X1_129 im_X5_makeOf se_X5_makeOf in_X5 co_X5_makeOf) rfl rfl rfl (by decide +kernel) ⟨Nat.le_of_ble_eq_true rfl, Nat.le_of_ble_eq_true rfl⟩) (cP_V hK hP hD [1, 2, 3, 4, 5, 6, 7, 8, 9] rfl rfl 1 rfl rfl) rfl rfl hl.1 rfl (lv_room (Nat.le_of_ble_eq_true rfl)) dX1_wrapKey_19 ⟨Nat.zero_le _, Nat.zero_le _⟩) hP hD hS hA [1, 2, 3, 4, 5, 6, 7, 8, 9] rfl (fun H locs hP hS => ?_)
  refine lv_iload_n hx hb dX1_wrapKey_22 rfl (lv_at hl 0 rfl) ?_
  refine lv_aload_n hx hb dX1_wrapKey_23 rfl (lv_at hl 1 rfl) ?_
  refine va_get (D := (dC, dI)) (ci := 1) (v := .ref t0) (C := RX1) (T := TX1) (N := 2) hx hb hts (fun w h9 => gb_mem (lay_X1 w h9)) hown hK.1 hP 0 rfl rfl 0 (by decide) (hts _ (gb_mem fl_X1_12)) (fun _ h9 => h9) rfl dX1_wrapKey_24 ?_
  refine lv_iload_n hx hb dX1_wrapKey_27 rfl (lv_at hl 0 rfl) ?_
  refine fr_ir (M := (treeW cyI t0 t1 t2 t3 t4 t5 t6 t7 t8 mostWear keys boxes liveKeys liveBoxes parents makes wears keysOfBoxes)) (va_runV (As := [.int (fX5_parentOf parents x1)]) (rest := [.int (fX5_parentOf parents x1), .int (fX5_makeOf makes x1), .int x1, .ref w0]) ⟨hx, hb, hml, hown, hts⟩ (mX5_makeOf l dC dI cyI cyO cyL t0 t1 t2 t3 t4 t5 t6 t7 t8 mostWear keys boxes liveKeys liveBoxes parents makes wears keysOfBoxes (fX5_parentOf parents x1) _ (fX5_makeOf makes (fX5_parentOf parents x1)) rfl) (cwV 1 hts (gV ml_X1_129 im_X5_makeOf se_X5_makeOf in_X5 co_X5_makeOf) rfl rfl rfl (by decide +kernel) ⟨Nat.le_of_ble_eq_true rfl, Nat.le_of_ble_eq_true rfl⟩) (cP_V hK hP hD [1, 2, 3, 4, 5, 6, 7, 8, 9] rfl rfl 1 rfl rfl) rfl rfl hl.1 rfl (lv_room (Nat.le_of_ble_eq_true rfl)) dX1_wrapKey_28 ⟨Nat.zero_le _, Nat.zero_le _⟩) hP hD hS hA [1, 2, 3, 4, 5, 6, 7, 8, 9] rfl (fun H locs hP hS => ?_)
  obtain ⟨q1, e2, h⟩ := ob h
  refine fr_v (M := (wrapsW cyI w0 w1 w2 w3 w4 w5 w6 w7 w8 w9 w10 number heldKeys heldWhats closers closerMakes stands)) (M' := (wrapsW cyI w0 w1 w2 w3 w4 w5 w6 w7 w8 w9 w10 q1.1 q1.2.1 q1.2.2.1 q1.2.2.2.1 q1.2.2.2.2.1 q1.2.2.2.2.2)) (L' := (houseW cyI h0 t0 t1 t2 t3 t4 t5 t6 t7 t8 w0 w1 w2 w3 w4 w5 w6 w7 w8 w9 w10 mostWear keys boxes liveKeys liveBoxes parents makes wears keysOfBoxes q1.1 q1.2.1 q1.2.2.1 q1.2.2.2.1 q1.2.2.2.2.1 q1.2.2.2.2.2)) (va_runV (As := [.int x1, .int (fX5_makeOf makes x1), .int (fX5_parentOf parents x1), .int (fX5_makeOf makes (fX5_parentOf parents x1))]) (rest := []) ⟨hx, hb, hml, hown, hts⟩ (mX6_add l dC dI cyI cyO cyL w0 w1 w2 w3 w4 w5 w6 w7 w8 w9 w10 number heldKeys heldWhats closers closerMakes stands x1 (fX5_makeOf makes x1) (fX5_parentOf parents x1) (fX5_makeOf makes (fX5_parentOf parents x1)) _ q1 e2) (cwV 4 hts (gV ml_X1_135 im_X6_add se_X6_add in_X6 co_X6_add) rfl rfl rfl (by decide +kernel) ⟨Nat.le_of_ble_eq_true rfl, Nat.le_of_ble_eq_true rfl⟩) (cP_V hK hP hD [10, 11, 12, 13, 14, 15, 16, 17, 18, 19, 20] rfl rfl 10 rfl rfl) rfl rfl hl.1 rfl (lv_room (Nat.le_of_ble_eq_true rfl)) dX1_wrapKey_31 ⟨Nat.zero_le _, Nat.zero_le _⟩) hP hD hS hA [10, 11, 12, 13, 14, 15, 16, 17, 18, 19, 20] rfl [(false, 0), (false, 1), (false, 2), (false, 3), (false, 4), (false, 5), (false, 6), (false, 7), (false, 8), (false, 9), (true, 0), (true, 1), (true, 2), (true, 3), (true, 4), (true, 5), (true, 6), (true, 7), (true, 8), (true, 9), (true, 10)] rfl rfl rfl (fun H locs hP hD hS => ?_)
  refine lv_aload_n hx hb dX1_wrapKey_34 rfl (lv_at hl 1 rfl) ?_
  refine va_get (D := (dC, dI)) (ci := 1) (v := .ref t0) (C := RX1) (T := TX1) (N := 2) hx hb hts (fun w h9 => gb_mem (lay_X1 w h9)) hown hK.1 hP 0 rfl rfl 0 (by decide) (hts _ (gb_mem fl_X1_12)) (fun _ h9 => h9) rfl dX1_wrapKey_35 ?_
  refine lv_iload_n hx hb dX1_wrapKey_38 rfl (lv_at hl 0 rfl) ?_
  refine fr_v (M := (treeW cyI t0 t1 t2 t3 t4 t5 t6 t7 t8 mostWear keys boxes liveKeys liveBoxes parents makes wears keysOfBoxes)) (M' := (treeW cyI t0 t1 t2 t3 t4 t5 t6 t7 t8 mostWear keys boxes liveKeys liveBoxes parents makes (fX5_wearDown wears (fX5_parentOf parents x1)) keysOfBoxes)) (L' := (houseW cyI h0 t0 t1 t2 t3 t4 t5 t6 t7 t8 w0 w1 w2 w3 w4 w5 w6 w7 w8 w9 w10 mostWear keys boxes liveKeys liveBoxes parents makes (fX5_wearDown wears (fX5_parentOf parents x1)) keysOfBoxes q1.1 q1.2.1 q1.2.2.1 q1.2.2.2.1 q1.2.2.2.2.1 q1.2.2.2.2.2)) (va_runV (As := [.int (fX5_parentOf parents x1)]) (rest := []) ⟨hx, hb, hml, hown, hts⟩ (mX5_wearDown l dC dI cyI cyO cyL t0 t1 t2 t3 t4 t5 t6 t7 t8 mostWear keys boxes liveKeys liveBoxes parents makes wears keysOfBoxes (fX5_parentOf parents x1) _ (fX5_wearDown wears (fX5_parentOf parents x1)) rfl) (cwV 1 hts (gV ml_X1_139 im_X5_wearDown se_X5_wearDown in_X5 co_X5_wearDown) rfl rfl rfl (by decide +kernel) ⟨Nat.le_of_ble_eq_true rfl, Nat.le_of_ble_eq_true rfl⟩) (cP_V hK hP hD [1, 2, 3, 4, 5, 6, 7, 8, 9] rfl rfl 1 rfl rfl) rfl rfl hl.1 rfl (lv_room (Nat.le_of_ble_eq_true rfl)) dX1_wrapKey_39 ⟨Nat.zero_le _, Nat.zero_le _⟩) hP hD hS hA [1, 2, 3, 4, 5, 6, 7, 8, 9] rfl [(false, 0), (true, 0), (true, 1), (true, 2), (true, 3), (true, 4), (true, 5), (true, 6), (true, 7), (true, 8), (false, 10), (false, 11), (false, 12), (false, 13), (false, 14), (false, 15), (false, 16), (false, 17), (false, 18), (false, 19), (false, 20)] rfl rfl rfl (fun H locs hP hD hS => ?_)
  obtain rfl := Option.some.inj h
  exact e_v hx hb hr hlocks hP hS dX1_wrapKey_42
noncomputable def fX1_makeKey_b59 (mostWear : Int32) (keys : Int32) (liveKeys : Int32) (parents : Nat → Int32) (makes : Nat → Int32) (wears : Nat → Int32) (number : Int32) (heldKeys : Nat → Int32) (heldWhats : Nat → Int32) (closers : Nat → Int32) (closerMakes : Nat → Int32) (stands : Nat → Int32) (y1 : Int32) (y2 : Int32) : Option (Int32 × Int32 × Int32 × (Nat → Int32) × (Nat → Int32) × (Nat → Int32) × Int32 × (Nat → Int32) × (Nat → Int32) × (Nat → Int32) × (Nat → Int32) × (Nat → Int32)) :=
  (if y2 = 0 then (if (fX5_leftToClose mostWear wears y1) = 0 then (some ((-5), keys, liveKeys, parents, makes, wears, number, heldKeys, heldWhats, closers, closerMakes, stands)) else ((fX5_addKey keys liveKeys parents makes wears y1).bind fun q8 => (if y2 = 0 then ((fX1_wrapKey q8.2.2.2.1 q8.2.2.2.2.1 q8.2.2.2.2.2 number heldKeys heldWhats closers closerMakes stands q8.1).bind fun q11 => (some (q8.1, q8.2.1, q8.2.2.1, q8.2.2.2.1, q8.2.2.2.2.1, q11.1, q11.2.1, q11.2.2.1, q11.2.2.2.1, q11.2.2.2.2.1, q11.2.2.2.2.2.1, q11.2.2.2.2.2.2))) else (some (q8.1, q8.2.1, q8.2.2.1, q8.2.2.2.1, q8.2.2.2.2.1, q8.2.2.2.2.2, number, heldKeys, heldWhats, closers, closerMakes, stands))))) else ((fX5_addKey keys liveKeys parents makes wears y1).bind fun q2 => (if y2 = 0 then ((fX1_wrapKey q2.2.2.2.1 q2.2.2.2.2.1 q2.2.2.2.2.2 number heldKeys heldWhats closers closerMakes stands q2.1).bind fun q5 => (some (q2.1, q2.2.1, q2.2.2.1, q2.2.2.2.1, q2.2.2.2.2.1, q5.1, q5.2.1, q5.2.2.1, q5.2.2.2.1, q5.2.2.2.2.1, q5.2.2.2.2.2.1, q5.2.2.2.2.2.2))) else (some (q2.1, q2.2.1, q2.2.2.1, q2.2.2.2.1, q2.2.2.2.2.1, q2.2.2.2.2.2, number, heldKeys, heldWhats, closers, closerMakes, stands)))))

noncomputable def fX1_makeKey_b11 (mostWear : Int32) (keys : Int32) (liveKeys : Int32) (parents : Nat → Int32) (makes : Nat → Int32) (wears : Nat → Int32) (number : Int32) (heldKeys : Nat → Int32) (heldWhats : Nat → Int32) (closers : Nat → Int32) (closerMakes : Nat → Int32) (stands : Nat → Int32) (y1 : Int32) (z0 : Int32) : Option (Int32 × Int32 × Int32 × (Nat → Int32) × (Nat → Int32) × (Nat → Int32) × Int32 × (Nat → Int32) × (Nat → Int32) × (Nat → Int32) × (Nat → Int32) × (Nat → Int32)) :=
  (if z0 = 0 then (if (fX5_isLiveKey liveKeys y1) = 0 then (some ((-1), keys, liveKeys, parents, makes, wears, number, heldKeys, heldWhats, closers, closerMakes, stands)) else (if 20 ≤ keys then (some ((-4), keys, liveKeys, parents, makes, wears, number, heldKeys, heldWhats, closers, closerMakes, stands)) else (if z0 = 0 then (if (fX6_haveRoomFor number 1) = 0 then (some ((-4), keys, liveKeys, parents, makes, wears, number, heldKeys, heldWhats, closers, closerMakes, stands)) else fX1_makeKey_b59 mostWear keys liveKeys parents makes wears number heldKeys heldWhats closers closerMakes stands y1 z0) else fX1_makeKey_b59 mostWear keys liveKeys parents makes wears number heldKeys heldWhats closers closerMakes stands y1 z0))) else (if 20 ≤ keys then (some ((-4), keys, liveKeys, parents, makes, wears, number, heldKeys, heldWhats, closers, closerMakes, stands)) else (if z0 = 0 then (if (fX6_haveRoomFor number 1) = 0 then (some ((-4), keys, liveKeys, parents, makes, wears, number, heldKeys, heldWhats, closers, closerMakes, stands)) else fX1_makeKey_b59 mostWear keys liveKeys parents makes wears number heldKeys heldWhats closers closerMakes stands y1 z0) else fX1_makeKey_b59 mostWear keys liveKeys parents makes wears number heldKeys heldWhats closers closerMakes stands y1 z0)))

noncomputable def fX1_makeKey (mostWear : Int32) (keys : Int32) (liveKeys : Int32) (parents : Nat → Int32) (makes : Nat → Int32) (wears : Nat → Int32) (number : Int32) (heldKeys : Nat → Int32) (heldWhats : Nat → Int32) (closers : Nat → Int32) (closerMakes : Nat → Int32) (stands : Nat → Int32) (x1 : Int32) : Option (Int32 × Int32 × Int32 × (Nat → Int32) × (Nat → Int32) × (Nat → Int32) × Int32 × (Nat → Int32) × (Nat → Int32) × (Nat → Int32) × (Nat → Int32) × (Nat → Int32)) :=
  (if x1 = (-6) then fX1_makeKey_b11 mostWear keys liveKeys parents makes wears number heldKeys heldWhats closers closerMakes stands x1 1 else fX1_makeKey_b11 mostWear keys liveKeys parents makes wears number heldKeys heldWhats closers closerMakes stands x1 0)
set_option maxHeartbeats 1000000 in
set_option maxRecDepth 100000 in
theorem mX1_makeKey (l : Launch) (dC : Nat → ClassId) (dI : Nat → Nat → Nat) (cyI cyO cyL : ClassId) (h0 t0 t1 t2 t3 t4 t5 t6 t7 t8 w0 w1 w2 w3 w4 w5 w6 w7 w8 w9 w10 : Nat) (mostWear : Int32) (keys : Int32) (boxes : Int32) (liveKeys : Int32) (liveBoxes : Int32) (parents : Nat → Int32) (makes : Nat → Int32) (wears : Nat → Int32) (keysOfBoxes : Nat → Int32) (number : Int32) (heldKeys : Nat → Int32) (heldWhats : Nat → Int32) (closers : Nat → Int32) (closerMakes : Nat → Int32) (stands : Nat → Int32) (x1 : Int32) (sz : Nat) (res : Int32 × Int32 × Int32 × (Nat → Int32) × (Nat → Int32) × (Nat → Int32) × Int32 × (Nat → Int32) × (Nat → Int32) × (Nat → Int32) × (Nat → Int32) × (Nat → Int32)) (h : fX1_makeKey mostWear keys liveKeys parents makes wears number heldKeys heldWhats closers closerMakes stands x1 = some res) : Met l yX1_makeKey (wsG yX1_makeKey cX1_makeKey 4 (some .int)) ({ frames := 3, cells := 0, slots := 0, locals := 68 }) (cP dC dI cyI cyO cyL sz [.ref h0, .int x1] (houseW cyI h0 t0 t1 t2 t3 t4 t5 t6 t7 t8 w0 w1 w2 w3 w4 w5 w6 w7 w8 w9 w10 mostWear keys boxes liveKeys liveBoxes parents makes wears keysOfBoxes number heldKeys heldWhats closers closerMakes stands)) (cI dC dI res.1 (houseW cyI h0 t0 t1 t2 t3 t4 t5 t6 t7 t8 w0 w1 w2 w3 w4 w5 w6 w7 w8 w9 w10 mostWear res.2.1 boxes res.2.2.1 liveBoxes res.2.2.2.1 res.2.2.2.2.1 res.2.2.2.2.2.1 keysOfBoxes res.2.2.2.2.2.2.1 res.2.2.2.2.2.2.2.1 res.2.2.2.2.2.2.2.2.1 res.2.2.2.2.2.2.2.2.2.1 res.2.2.2.2.2.2.2.2.2.2.1 res.2.2.2.2.2.2.2.2.2.2.2) (va_A (houseW cyI h0 t0 t1 t2 t3 t4 t5 t6 t7 t8 w0 w1 w2 w3 w4 w5 w6 w7 w8 w9 w10 mostWear keys boxes liveKeys liveBoxes parents makes wears keysOfBoxes number heldKeys heldWhats closers closerMakes stands) sz)) 0 0 (va_A (houseW cyI h0 t0 t1 t2 t3 t4 t5 t6 t7 t8 w0 w1 w2 w3 w4 w5 w6 w7 w8 w9 w10 mostWear keys boxes liveKeys liveBoxes parents makes wears keysOfBoxes number heldKeys heldWhats closers closerMakes stands) sz) := by
  refine Met.ofW (cc := cX1_makeKey) (maxL := 4) (ret := (some .int)) (by decide) rfl ?_
  intro p e s m args below meth c s₁ B hml hv
  obtain ⟨rfl, hsz, hP, hK, hD0⟩ := hv
  have hx := B.exec
  have hb := B.bytes
  have hr := B.returns
  have hts := atoms_spec (ws := wsG yX1_makeKey cX1_makeKey 4 (some .int)) B.pre
  have hown : s.vm.findClass RX1 = some m.cls := findClass_of_methodNamed B.named
  have hlocks := B.notSynchronized
  subst hsz
  have hD := hD0.self (sz := s.heap.size)
  generalize hAe : va_A (houseW cyI h0 t0 t1 t2 t3 t4 t5 t6 t7 t8 w0 w1 w2 w3 w4 w5 w6 w7 w8 w9 w10 mostWear keys boxes liveKeys liveBoxes parents makes wears keysOfBoxes number heldKeys heldWhats closers closerMakes stands) s.heap.size = A at hD ⊢
  have hA : ∀ q : Nat, s.heap.size ≤ q → A q := fun q h => by rw [← hAe]; exact Or.inr h
  have hS : va_S A s.heap s.heap [] := va_S.rf
  have kB59 : ∀ (mostWear : Int32) (keys : Int32) (liveKeys : Int32) (parents : Nat → Int32) (makes : Nat → Int32) (wears : Nat → Int32) (number : Int32) (heldKeys : Nat → Int32) (heldWhats : Nat → Int32) (closers : Nat → Int32) (closerMakes : Nat → Int32) (stands : Nat → Int32) (y1 : Int32) (y2 : Int32), fX1_makeKey_b59 mostWear keys liveKeys parents makes wears number heldKeys heldWhats closers closerMakes stands y1 y2 = some res → ∀ (H : Heap) (locs : List Loc), va_P (dC, dI) vwCl (houseW cyI h0 t0 t1 t2 t3 t4 t5 t6 t7 t8 w0 w1 w2 w3 w4 w5 w6 w7 w8 w9 w10 mostWear keys boxes liveKeys liveBoxes parents makes wears keysOfBoxes number heldKeys heldWhats closers closerMakes stands) H → va_D A (houseW cyI h0 t0 t1 t2 t3 t4 t5 t6 t7 t8 w0 w1 w2 w3 w4 w5 w6 w7 w8 w9 w10 mostWear keys boxes liveKeys liveBoxes parents makes wears keysOfBoxes number heldKeys heldWhats closers closerMakes stands) → va_S A s.heap H locs → ∀ ls : Array Slot, lv_has ls 4 [(0, .ref h0), (1, .int y1), (2, .int y2)] → W p l e (headSpec (wsG yX1_makeKey cX1_makeKey 4 (some .int)) ({ frames := 3, cells := 0, slots := 0, locals := 68 })).room s m (([.ref h0, .int x1] : List Value).toArray) below meth c H locs 0 0 (MQ below (cI dC dI res.1 (houseW cyI h0 t0 t1 t2 t3 t4 t5 t6 t7 t8 w0 w1 w2 w3 w4 w5 w6 w7 w8 w9 w10 mostWear res.2.1 boxes res.2.2.1 liveBoxes res.2.2.2.1 res.2.2.2.2.1 res.2.2.2.2.2.1 keysOfBoxes res.2.2.2.2.2.2.1 res.2.2.2.2.2.2.2.1 res.2.2.2.2.2.2.2.2.1 res.2.2.2.2.2.2.2.2.2.1 res.2.2.2.2.2.2.2.2.2.2.1 res.2.2.2.2.2.2.2.2.2.2.2) A) ([.ref h0, .int x1] : List Value).toArray s 0 0 A) (F0 m 59 ls []) := by
    intro mostWear keys liveKeys parents makes wears number heldKeys heldWhats closers closerMakes stands y1 y2 h H locs hP hD hS ls hl
    unfold fX1_makeKey_b59 at h
    refine lv_iload_n hx hb dX1_makeKey_59 rfl (lv_at hl 2 rfl) ?_
    refine lv_if_ne (tgt := 77) hx hb dX1_makeKey_60 (by decide) (fun c1 => ?_) (fun c1 => ?_)
    · have h := (if_neg c1).symm.trans h
      refine lv_aload_n hx hb dX1_makeKey_77 rfl (lv_at hl 0 rfl) ?_
      refine va_get (D := (dC, dI)) (ci := 1) (v := .ref t0) (C := RX1) (T := TX1) (N := 2) hx hb hts (fun w h9 => gb_mem (lay_X1 w h9)) hown hK.1 hP 0 rfl rfl 0 (by decide) (hts _ (gb_mem fl_X1_12)) (fun _ h9 => h9) rfl dX1_makeKey_78 ?_
      refine lv_iload_n hx hb dX1_makeKey_81 rfl (lv_at hl 1 rfl) ?_
      obtain ⟨q2, e3, h⟩ := ob h
      refine fr_i (M := (treeW cyI t0 t1 t2 t3 t4 t5 t6 t7 t8 mostWear keys boxes liveKeys liveBoxes parents makes wears keysOfBoxes)) (M' := (treeW cyI t0 t1 t2 t3 t4 t5 t6 t7 t8 mostWear q2.2.1 boxes q2.2.2.1 liveBoxes q2.2.2.2.1 q2.2.2.2.2.1 q2.2.2.2.2.2 keysOfBoxes)) (L' := (houseW cyI h0 t0 t1 t2 t3 t4 t5 t6 t7 t8 w0 w1 w2 w3 w4 w5 w6 w7 w8 w9 w10 mostWear q2.2.1 boxes q2.2.2.1 liveBoxes q2.2.2.2.1 q2.2.2.2.2.1 q2.2.2.2.2.2 keysOfBoxes number heldKeys heldWhats closers closerMakes stands)) (va_runV (As := [.int y1]) (rest := []) ⟨hx, hb, hml, hown, hts⟩ (mX5_addKey l dC dI cyI cyO cyL t0 t1 t2 t3 t4 t5 t6 t7 t8 mostWear keys boxes liveKeys liveBoxes parents makes wears keysOfBoxes y1 _ q2 e3) (cwV 1 hts (gV ml_X1_43 im_X5_addKey se_X5_addKey in_X5 co_X5_addKey) rfl rfl rfl (by decide +kernel) ⟨Nat.le_of_ble_eq_true rfl, Nat.le_of_ble_eq_true rfl⟩) (cP_V hK hP hD [1, 2, 3, 4, 5, 6, 7, 8, 9] rfl rfl 1 rfl rfl) rfl rfl hl.1 rfl (lv_room (Nat.le_of_ble_eq_true rfl)) dX1_makeKey_82 ⟨Nat.zero_le _, Nat.zero_le _⟩) hP hD hS hA [1, 2, 3, 4, 5, 6, 7, 8, 9] rfl [(false, 0), (true, 0), (true, 1), (true, 2), (true, 3), (true, 4), (true, 5), (true, 6), (true, 7), (true, 8), (false, 10), (false, 11), (false, 12), (false, 13), (false, 14), (false, 15), (false, 16), (false, 17), (false, 18), (false, 19), (false, 20)] rfl rfl rfl (fun H locs hP hD hS => ?_)
      refine lv_istore_n (lv' := [(3, .int q2.1), (0, .ref h0), (1, .int y1), (2, .int y2)]) hx hb dX1_makeKey_85 rfl hl (by decide) rfl (fun ls hl => ?_)
      refine lv_iload_n hx hb dX1_makeKey_86 rfl (lv_at hl 3 rfl) ?_
      refine lv_if_ne (tgt := 95) hx hb dX1_makeKey_87 (by decide) (fun c4 => ?_) (fun c4 => ?_)
      · have h := (if_neg c4).symm.trans h
        refine lv_iload_n hx hb dX1_makeKey_95 rfl (lv_at hl 0 rfl) ?_
        obtain rfl := Option.some.inj h
        exact e_i hx hb hr hlocks hP hS dX1_makeKey_96
      · have h := (if_pos c4).symm.trans h
        refine lv_aload_n hx hb dX1_makeKey_90 rfl (lv_at hl 1 rfl) ?_
        refine lv_iload_n hx hb dX1_makeKey_91 rfl (lv_at hl 0 rfl) ?_
        obtain ⟨q5, e6, h⟩ := ob h
        refine fr_v (M := (houseW cyI h0 t0 t1 t2 t3 t4 t5 t6 t7 t8 w0 w1 w2 w3 w4 w5 w6 w7 w8 w9 w10 mostWear q2.2.1 boxes q2.2.2.1 liveBoxes q2.2.2.2.1 q2.2.2.2.2.1 q2.2.2.2.2.2 keysOfBoxes number heldKeys heldWhats closers closerMakes stands)) (M' := (houseW cyI h0 t0 t1 t2 t3 t4 t5 t6 t7 t8 w0 w1 w2 w3 w4 w5 w6 w7 w8 w9 w10 mostWear q2.2.1 boxes q2.2.2.1 liveBoxes q2.2.2.2.1 q2.2.2.2.2.1 q5.1 keysOfBoxes q5.2.1 q5.2.2.1 q5.2.2.2.1 q5.2.2.2.2.1 q5.2.2.2.2.2.1 q5.2.2.2.2.2.2)) (L' := (houseW cyI h0 t0 t1 t2 t3 t4 t5 t6 t7 t8 w0 w1 w2 w3 w4 w5 w6 w7 w8 w9 w10 mostWear q2.2.1 boxes q2.2.2.1 liveBoxes q2.2.2.2.1 q2.2.2.2.2.1 q5.1 keysOfBoxes q5.2.1 q5.2.2.1 q5.2.2.2.1 q5.2.2.2.2.1 q5.2.2.2.2.2.1 q5.2.2.2.2.2.2)) (va_runV (As := [.int q2.1]) (rest := []) ⟨hx, hb, hml, hown, hts⟩ (mX1_wrapKey l dC dI cyI cyO cyL h0 t0 t1 t2 t3 t4 t5 t6 t7 t8 w0 w1 w2 w3 w4 w5 w6 w7 w8 w9 w10 mostWear q2.2.1 boxes q2.2.2.1 liveBoxes q2.2.2.2.1 q2.2.2.2.2.1 q2.2.2.2.2.2 keysOfBoxes number heldKeys heldWhats closers closerMakes stands q2.1 _ q5 e6) (cwV 1 hts (gV ml_X1_46 im_X1_wrapKey se_X1_wrapKey in_X1 co_X1_wrapKey) rfl rfl rfl (by decide +kernel) ⟨Nat.le_of_ble_eq_true rfl, Nat.le_of_ble_eq_true rfl⟩) (cP_V hK hP hD [0, 1, 2, 3, 4, 5, 6, 7, 8, 9, 10, 11, 12, 13, 14, 15, 16, 17, 18, 19, 20] rfl rfl 0 rfl rfl) rfl rfl hl.1 rfl (lv_room (Nat.le_of_ble_eq_true rfl)) dX1_makeKey_92 ⟨Nat.zero_le _, Nat.zero_le _⟩) hP hD hS hA [0, 1, 2, 3, 4, 5, 6, 7, 8, 9, 10, 11, 12, 13, 14, 15, 16, 17, 18, 19, 20] rfl [(true, 0), (true, 1), (true, 2), (true, 3), (true, 4), (true, 5), (true, 6), (true, 7), (true, 8), (true, 9), (true, 10), (true, 11), (true, 12), (true, 13), (true, 14), (true, 15), (true, 16), (true, 17), (true, 18), (true, 19), (true, 20)] rfl rfl rfl (fun H locs hP hD hS => ?_)
        refine lv_iload_n hx hb dX1_makeKey_95 rfl (lv_at hl 0 rfl) ?_
        obtain rfl := Option.some.inj h
        exact e_i hx hb hr hlocks hP hS dX1_makeKey_96
    · have h := (if_pos c1).symm.trans h
      refine lv_aload_n hx hb dX1_makeKey_63 rfl (lv_at hl 0 rfl) ?_
      refine va_get (D := (dC, dI)) (ci := 1) (v := .ref t0) (C := RX1) (T := TX1) (N := 2) hx hb hts (fun w h9 => gb_mem (lay_X1 w h9)) hown hK.1 hP 0 rfl rfl 0 (by decide) (hts _ (gb_mem fl_X1_12)) (fun _ h9 => h9) rfl dX1_makeKey_64 ?_
      refine lv_iload_n hx hb dX1_makeKey_67 rfl (lv_at hl 1 rfl) ?_
      refine fr_ir (M := (treeW cyI t0 t1 t2 t3 t4 t5 t6 t7 t8 mostWear keys boxes liveKeys liveBoxes parents makes wears keysOfBoxes)) (va_runV (As := [.int y1]) (rest := []) ⟨hx, hb, hml, hown, hts⟩ (mX5_leftToClose l dC dI cyI cyO cyL t0 t1 t2 t3 t4 t5 t6 t7 t8 mostWear keys boxes liveKeys liveBoxes parents makes wears keysOfBoxes y1 _ (fX5_leftToClose mostWear wears y1) rfl) (cwV 1 hts (gV ml_X1_39 im_X5_leftToClose se_X5_leftToClose in_X5 co_X5_leftToClose) rfl rfl rfl (by decide +kernel) ⟨Nat.le_of_ble_eq_true rfl, Nat.le_of_ble_eq_true rfl⟩) (cP_V hK hP hD [1, 2, 3, 4, 5, 6, 7, 8, 9] rfl rfl 1 rfl rfl) rfl rfl hl.1 rfl (lv_room (Nat.le_of_ble_eq_true rfl)) dX1_makeKey_68 ⟨Nat.zero_le _, Nat.zero_le _⟩) hP hD hS hA [1, 2, 3, 4, 5, 6, 7, 8, 9] rfl (fun H locs hP hS => ?_)
      refine lv_if_ne (tgt := 77) hx hb dX1_makeKey_71 (by decide) (fun c7 => ?_) (fun c7 => ?_)
      · have h := (if_neg c7).symm.trans h
        refine lv_aload_n hx hb dX1_makeKey_77 rfl (lv_at hl 0 rfl) ?_
        refine va_get (D := (dC, dI)) (ci := 1) (v := .ref t0) (C := RX1) (T := TX1) (N := 2) hx hb hts (fun w h9 => gb_mem (lay_X1 w h9)) hown hK.1 hP 0 rfl rfl 0 (by decide) (hts _ (gb_mem fl_X1_12)) (fun _ h9 => h9) rfl dX1_makeKey_78 ?_
        refine lv_iload_n hx hb dX1_makeKey_81 rfl (lv_at hl 1 rfl) ?_
        obtain ⟨q8, e9, h⟩ := ob h
        refine fr_i (M := (treeW cyI t0 t1 t2 t3 t4 t5 t6 t7 t8 mostWear keys boxes liveKeys liveBoxes parents makes wears keysOfBoxes)) (M' := (treeW cyI t0 t1 t2 t3 t4 t5 t6 t7 t8 mostWear q8.2.1 boxes q8.2.2.1 liveBoxes q8.2.2.2.1 q8.2.2.2.2.1 q8.2.2.2.2.2 keysOfBoxes)) (L' := (houseW cyI h0 t0 t1 t2 t3 t4 t5 t6 t7 t8 w0 w1 w2 w3 w4 w5 w6 w7 w8 w9 w10 mostWear q8.2.1 boxes q8.2.2.1 liveBoxes q8.2.2.2.1 q8.2.2.2.2.1 q8.2.2.2.2.2 keysOfBoxes number heldKeys heldWhats closers closerMakes stands)) (va_runV (As := [.int y1]) (rest := []) ⟨hx, hb, hml, hown, hts⟩ (mX5_addKey l dC dI cyI cyO cyL t0 t1 t2 t3 t4 t5 t6 t7 t8 mostWear keys boxes liveKeys liveBoxes parents makes wears keysOfBoxes y1 _ q8 e9) (cwV 1 hts (gV ml_X1_43 im_X5_addKey se_X5_addKey in_X5 co_X5_addKey) rfl rfl rfl (by decide +kernel) ⟨Nat.le_of_ble_eq_true rfl, Nat.le_of_ble_eq_true rfl⟩) (cP_V hK hP hD [1, 2, 3, 4, 5, 6, 7, 8, 9] rfl rfl 1 rfl rfl) rfl rfl hl.1 rfl (lv_room (Nat.le_of_ble_eq_true rfl)) dX1_makeKey_82 ⟨Nat.zero_le _, Nat.zero_le _⟩) hP hD hS hA [1, 2, 3, 4, 5, 6, 7, 8, 9] rfl [(false, 0), (true, 0), (true, 1), (true, 2), (true, 3), (true, 4), (true, 5), (true, 6), (true, 7), (true, 8), (false, 10), (false, 11), (false, 12), (false, 13), (false, 14), (false, 15), (false, 16), (false, 17), (false, 18), (false, 19), (false, 20)] rfl rfl rfl (fun H locs hP hD hS => ?_)
        refine lv_istore_n (lv' := [(3, .int q8.1), (0, .ref h0), (1, .int y1), (2, .int y2)]) hx hb dX1_makeKey_85 rfl hl (by decide) rfl (fun ls hl => ?_)
        refine lv_iload_n hx hb dX1_makeKey_86 rfl (lv_at hl 3 rfl) ?_
        refine lv_if_ne (tgt := 95) hx hb dX1_makeKey_87 (by decide) (fun c10 => ?_) (fun c10 => ?_)
        · have h := (if_neg c10).symm.trans h
          refine lv_iload_n hx hb dX1_makeKey_95 rfl (lv_at hl 0 rfl) ?_
          obtain rfl := Option.some.inj h
          exact e_i hx hb hr hlocks hP hS dX1_makeKey_96
        · have h := (if_pos c10).symm.trans h
          refine lv_aload_n hx hb dX1_makeKey_90 rfl (lv_at hl 1 rfl) ?_
          refine lv_iload_n hx hb dX1_makeKey_91 rfl (lv_at hl 0 rfl) ?_
          obtain ⟨q11, e12, h⟩ := ob h
          refine fr_v (M := (houseW cyI h0 t0 t1 t2 t3 t4 t5 t6 t7 t8 w0 w1 w2 w3 w4 w5 w6 w7 w8 w9 w10 mostWear q8.2.1 boxes q8.2.2.1 liveBoxes q8.2.2.2.1 q8.2.2.2.2.1 q8.2.2.2.2.2 keysOfBoxes number heldKeys heldWhats closers closerMakes stands)) (M' := (houseW cyI h0 t0 t1 t2 t3 t4 t5 t6 t7 t8 w0 w1 w2 w3 w4 w5 w6 w7 w8 w9 w10 mostWear q8.2.1 boxes q8.2.2.1 liveBoxes q8.2.2.2.1 q8.2.2.2.2.1 q11.1 keysOfBoxes q11.2.1 q11.2.2.1 q11.2.2.2.1 q11.2.2.2.2.1 q11.2.2.2.2.2.1 q11.2.2.2.2.2.2)) (L' := (houseW cyI h0 t0 t1 t2 t3 t4 t5 t6 t7 t8 w0 w1 w2 w3 w4 w5 w6 w7 w8 w9 w10 mostWear q8.2.1 boxes q8.2.2.1 liveBoxes q8.2.2.2.1 q8.2.2.2.2.1 q11.1 keysOfBoxes q11.2.1 q11.2.2.1 q11.2.2.2.1 q11.2.2.2.2.1 q11.2.2.2.2.2.1 q11.2.2.2.2.2.2)) (va_runV (As := [.int q8.1]) (rest := []) ⟨hx, hb, hml, hown, hts⟩ (mX1_wrapKey l dC dI cyI cyO cyL h0 t0 t1 t2 t3 t4 t5 t6 t7 t8 w0 w1 w2 w3 w4 w5 w6 w7 w8 w9 w10 mostWear q8.2.1 boxes q8.2.2.1 liveBoxes q8.2.2.2.1 q8.2.2.2.2.1 q8.2.2.2.2.2 keysOfBoxes number heldKeys heldWhats closers closerMakes stands q8.1 _ q11 e12) (cwV 1 hts (gV ml_X1_46 im_X1_wrapKey se_X1_wrapKey in_X1 co_X1_wrapKey) rfl rfl rfl (by decide +kernel) ⟨Nat.le_of_ble_eq_true rfl, Nat.le_of_ble_eq_true rfl⟩) (cP_V hK hP hD [0, 1, 2, 3, 4, 5, 6, 7, 8, 9, 10, 11, 12, 13, 14, 15, 16, 17, 18, 19, 20] rfl rfl 0 rfl rfl) rfl rfl hl.1 rfl (lv_room (Nat.le_of_ble_eq_true rfl)) dX1_makeKey_92 ⟨Nat.zero_le _, Nat.zero_le _⟩) hP hD hS hA [0, 1, 2, 3, 4, 5, 6, 7, 8, 9, 10, 11, 12, 13, 14, 15, 16, 17, 18, 19, 20] rfl [(true, 0), (true, 1), (true, 2), (true, 3), (true, 4), (true, 5), (true, 6), (true, 7), (true, 8), (true, 9), (true, 10), (true, 11), (true, 12), (true, 13), (true, 14), (true, 15), (true, 16), (true, 17), (true, 18), (true, 19), (true, 20)] rfl rfl rfl (fun H locs hP hD hS => ?_)
          refine lv_iload_n hx hb dX1_makeKey_95 rfl (lv_at hl 0 rfl) ?_
          obtain rfl := Option.some.inj h
          exact e_i hx hb hr hlocks hP hS dX1_makeKey_96
      · have h := (if_pos c7).symm.trans h
        refine lv_bipush (v := (-5)) hx hb dX1_makeKey_74 (by decide) ?_
        obtain rfl := Option.some.inj h
        exact e_i hx hb hr hlocks hP hS dX1_makeKey_76
  have kB11 : ∀ (mostWear : Int32) (keys : Int32) (liveKeys : Int32) (parents : Nat → Int32) (makes : Nat → Int32) (wears : Nat → Int32) (number : Int32) (heldKeys : Nat → Int32) (heldWhats : Nat → Int32) (closers : Nat → Int32) (closerMakes : Nat → Int32) (stands : Nat → Int32) (y1 : Int32) (z0 : Int32), fX1_makeKey_b11 mostWear keys liveKeys parents makes wears number heldKeys heldWhats closers closerMakes stands y1 z0 = some res → ∀ (H : Heap) (locs : List Loc), va_P (dC, dI) vwCl (houseW cyI h0 t0 t1 t2 t3 t4 t5 t6 t7 t8 w0 w1 w2 w3 w4 w5 w6 w7 w8 w9 w10 mostWear keys boxes liveKeys liveBoxes parents makes wears keysOfBoxes number heldKeys heldWhats closers closerMakes stands) H → va_D A (houseW cyI h0 t0 t1 t2 t3 t4 t5 t6 t7 t8 w0 w1 w2 w3 w4 w5 w6 w7 w8 w9 w10 mostWear keys boxes liveKeys liveBoxes parents makes wears keysOfBoxes number heldKeys heldWhats closers closerMakes stands) → va_S A s.heap H locs → ∀ ls : Array Slot, lv_has ls 4 [(0, .ref h0), (1, .int y1)] → W p l e (headSpec (wsG yX1_makeKey cX1_makeKey 4 (some .int)) ({ frames := 3, cells := 0, slots := 0, locals := 68 })).room s m (([.ref h0, .int x1] : List Value).toArray) below meth c H locs 0 0 (MQ below (cI dC dI res.1 (houseW cyI h0 t0 t1 t2 t3 t4 t5 t6 t7 t8 w0 w1 w2 w3 w4 w5 w6 w7 w8 w9 w10 mostWear res.2.1 boxes res.2.2.1 liveBoxes res.2.2.2.1 res.2.2.2.2.1 res.2.2.2.2.2.1 keysOfBoxes res.2.2.2.2.2.2.1 res.2.2.2.2.2.2.2.1 res.2.2.2.2.2.2.2.2.1 res.2.2.2.2.2.2.2.2.2.1 res.2.2.2.2.2.2.2.2.2.2.1 res.2.2.2.2.2.2.2.2.2.2.2) A) ([.ref h0, .int x1] : List Value).toArray s 0 0 A) (F0 m 11 ls [.int z0]) := by
    intro mostWear keys liveKeys parents makes wears number heldKeys heldWhats closers closerMakes stands y1 z0 h H locs hP hD hS ls hl
    unfold fX1_makeKey_b11 at h
    refine lv_istore_n (lv' := [(2, .int z0), (0, .ref h0), (1, .int y1)]) hx hb dX1_makeKey_11 rfl hl (by decide) rfl (fun ls hl => ?_)
    refine lv_iload_n hx hb dX1_makeKey_12 rfl (lv_at hl 0 rfl) ?_
    refine lv_if_ne (tgt := 29) hx hb dX1_makeKey_13 (by decide) (fun c13 => ?_) (fun c13 => ?_)
    · have h := (if_neg c13).symm.trans h
      refine lv_aload_n hx hb dX1_makeKey_29 rfl (lv_at hl 1 rfl) ?_
      refine va_get (D := (dC, dI)) (ci := 1) (v := .ref t0) (C := RX1) (T := TX1) (N := 2) hx hb hts (fun w h9 => gb_mem (lay_X1 w h9)) hown hK.1 hP 0 rfl rfl 0 (by decide) (hts _ (gb_mem fl_X1_12)) (fun _ h9 => h9) rfl dX1_makeKey_30 ?_
      refine va_getN (D := (dC, dI)) (ci := 5) (v := .int keys) (C := RX5) (T := TX5) (N := 9) hx hb hts (fun w h9 => gb_mem (lay_X5 w h9)) hown hK.1 hP 1 rfl rfl 1 (by decide) (va_Nw.use rfl (hK.2 _ nl_X1_33)) (fun _ h9 => h9) rfl dX1_makeKey_33 ?_
      refine lv_bipush (v := 20) hx hb dX1_makeKey_36 (by decide) ?_
      refine lv_icmp_ge (tgt := 56) hx hb dX1_makeKey_38 (by decide) (fun c14 => ?_) (fun c14 => ?_)
      · have h := (if_pos c14).symm.trans h
        refine lv_bipush (v := (-4)) hx hb dX1_makeKey_56 (by decide) ?_
        obtain rfl := Option.some.inj h
        exact e_i hx hb hr hlocks hP hS dX1_makeKey_58
      · have h := (if_neg c14).symm.trans h
        refine lv_iload_n hx hb dX1_makeKey_41 rfl (lv_at hl 0 rfl) ?_
        refine lv_if_ne (tgt := 59) hx hb dX1_makeKey_42 (by decide) (fun c15 => ?_) (fun c15 => ?_)
        · have h := (if_neg c15).symm.trans h
          exact kB59 mostWear keys liveKeys parents makes wears number heldKeys heldWhats closers closerMakes stands y1 z0 h _ _ hP hD hS ls (lv_sub hl [1, 2, 0] rfl)
        · have h := (if_pos c15).symm.trans h
          refine lv_aload_n hx hb dX1_makeKey_45 rfl (lv_at hl 1 rfl) ?_
          refine va_get (D := (dC, dI)) (ci := 1) (v := .ref w0) (C := RX1) (T := TX1) (N := 2) hx hb hts (fun w h9 => gb_mem (lay_X1 w h9)) hown hK.1 hP 0 rfl rfl 1 (by decide) (hts _ (gb_mem fl_X1_21)) (fun _ h9 => h9) rfl dX1_makeKey_46 ?_
          refine lv_iconst (v := 1) hx hb dX1_makeKey_49 (by decide) ?_
          refine fr_ir (M := (wrapsW cyI w0 w1 w2 w3 w4 w5 w6 w7 w8 w9 w10 number heldKeys heldWhats closers closerMakes stands)) (va_runV (As := [.int 1]) (rest := []) ⟨hx, hb, hml, hown, hts⟩ (mX6_haveRoomFor l dC dI cyI cyO cyL w0 w1 w2 w3 w4 w5 w6 w7 w8 w9 w10 number heldKeys heldWhats closers closerMakes stands 1 _ (fX6_haveRoomFor number 1) rfl) (cwV 1 hts (gV ml_X1_36 im_X6_haveRoomFor se_X6_haveRoomFor in_X6 co_X6_haveRoomFor) rfl rfl rfl (by decide +kernel) ⟨Nat.le_of_ble_eq_true rfl, Nat.le_of_ble_eq_true rfl⟩) (cP_V hK hP hD [10, 11, 12, 13, 14, 15, 16, 17, 18, 19, 20] rfl rfl 10 rfl rfl) rfl rfl hl.1 rfl (lv_room (Nat.le_of_ble_eq_true rfl)) dX1_makeKey_50 ⟨Nat.zero_le _, Nat.zero_le _⟩) hP hD hS hA [10, 11, 12, 13, 14, 15, 16, 17, 18, 19, 20] rfl (fun H locs hP hS => ?_)
          refine lv_if_ne (tgt := 59) hx hb dX1_makeKey_53 (by decide) (fun c16 => ?_) (fun c16 => ?_)
          · have h := (if_neg c16).symm.trans h
            exact kB59 mostWear keys liveKeys parents makes wears number heldKeys heldWhats closers closerMakes stands y1 z0 h _ _ hP hD hS ls (lv_sub hl [1, 2, 0] rfl)
          · have h := (if_pos c16).symm.trans h
            refine lv_bipush (v := (-4)) hx hb dX1_makeKey_56 (by decide) ?_
            obtain rfl := Option.some.inj h
            exact e_i hx hb hr hlocks hP hS dX1_makeKey_58
    · have h := (if_pos c13).symm.trans h
      refine lv_aload_n hx hb dX1_makeKey_16 rfl (lv_at hl 1 rfl) ?_
      refine va_get (D := (dC, dI)) (ci := 1) (v := .ref t0) (C := RX1) (T := TX1) (N := 2) hx hb hts (fun w h9 => gb_mem (lay_X1 w h9)) hown hK.1 hP 0 rfl rfl 0 (by decide) (hts _ (gb_mem fl_X1_12)) (fun _ h9 => h9) rfl dX1_makeKey_17 ?_
      refine lv_iload_n hx hb dX1_makeKey_20 rfl (lv_at hl 2 rfl) ?_
      refine fr_ir (M := (treeW cyI t0 t1 t2 t3 t4 t5 t6 t7 t8 mostWear keys boxes liveKeys liveBoxes parents makes wears keysOfBoxes)) (va_runV (As := [.int y1]) (rest := []) ⟨hx, hb, hml, hown, hts⟩ (mX5_isLiveKey l dC dI cyI cyO cyL t0 t1 t2 t3 t4 t5 t6 t7 t8 mostWear keys boxes liveKeys liveBoxes parents makes wears keysOfBoxes y1 _ (fX5_isLiveKey liveKeys y1) rfl) (cwV 1 hts (gV ml_X1_29 im_X5_isLiveKey se_X5_isLiveKey in_X5 co_X5_isLiveKey) rfl rfl rfl (by decide +kernel) ⟨Nat.le_of_ble_eq_true rfl, Nat.le_of_ble_eq_true rfl⟩) (cP_V hK hP hD [1, 2, 3, 4, 5, 6, 7, 8, 9] rfl rfl 1 rfl rfl) rfl rfl hl.1 rfl (lv_room (Nat.le_of_ble_eq_true rfl)) dX1_makeKey_21 ⟨Nat.zero_le _, Nat.zero_le _⟩) hP hD hS hA [1, 2, 3, 4, 5, 6, 7, 8, 9] rfl (fun H locs hP hS => ?_)
      refine lv_if_ne (tgt := 29) hx hb dX1_makeKey_24 (by decide) (fun c17 => ?_) (fun c17 => ?_)
      · have h := (if_neg c17).symm.trans h
        refine lv_aload_n hx hb dX1_makeKey_29 rfl (lv_at hl 1 rfl) ?_
        refine va_get (D := (dC, dI)) (ci := 1) (v := .ref t0) (C := RX1) (T := TX1) (N := 2) hx hb hts (fun w h9 => gb_mem (lay_X1 w h9)) hown hK.1 hP 0 rfl rfl 0 (by decide) (hts _ (gb_mem fl_X1_12)) (fun _ h9 => h9) rfl dX1_makeKey_30 ?_
        refine va_getN (D := (dC, dI)) (ci := 5) (v := .int keys) (C := RX5) (T := TX5) (N := 9) hx hb hts (fun w h9 => gb_mem (lay_X5 w h9)) hown hK.1 hP 1 rfl rfl 1 (by decide) (va_Nw.use rfl (hK.2 _ nl_X1_33)) (fun _ h9 => h9) rfl dX1_makeKey_33 ?_
        refine lv_bipush (v := 20) hx hb dX1_makeKey_36 (by decide) ?_
        refine lv_icmp_ge (tgt := 56) hx hb dX1_makeKey_38 (by decide) (fun c18 => ?_) (fun c18 => ?_)
        · have h := (if_pos c18).symm.trans h
          refine lv_bipush (v := (-4)) hx hb dX1_makeKey_56 (by decide) ?_
          obtain rfl := Option.some.inj h
          exact e_i hx hb hr hlocks hP hS dX1_makeKey_58
        · have h := (if_neg c18).symm.trans h
          refine lv_iload_n hx hb dX1_makeKey_41 rfl (lv_at hl 0 rfl) ?_
          refine lv_if_ne (tgt := 59) hx hb dX1_makeKey_42 (by decide) (fun c19 => ?_) (fun c19 => ?_)
          · have h := (if_neg c19).symm.trans h
            exact kB59 mostWear keys liveKeys parents makes wears number heldKeys heldWhats closers closerMakes stands y1 z0 h _ _ hP hD hS ls (lv_sub hl [1, 2, 0] rfl)
          · have h := (if_pos c19).symm.trans h
            refine lv_aload_n hx hb dX1_makeKey_45 rfl (lv_at hl 1 rfl) ?_
            refine va_get (D := (dC, dI)) (ci := 1) (v := .ref w0) (C := RX1) (T := TX1) (N := 2) hx hb hts (fun w h9 => gb_mem (lay_X1 w h9)) hown hK.1 hP 0 rfl rfl 1 (by decide) (hts _ (gb_mem fl_X1_21)) (fun _ h9 => h9) rfl dX1_makeKey_46 ?_
            refine lv_iconst (v := 1) hx hb dX1_makeKey_49 (by decide) ?_
            refine fr_ir (M := (wrapsW cyI w0 w1 w2 w3 w4 w5 w6 w7 w8 w9 w10 number heldKeys heldWhats closers closerMakes stands)) (va_runV (As := [.int 1]) (rest := []) ⟨hx, hb, hml, hown, hts⟩ (mX6_haveRoomFor l dC dI cyI cyO cyL w0 w1 w2 w3 w4 w5 w6 w7 w8 w9 w10 number heldKeys heldWhats closers closerMakes stands 1 _ (fX6_haveRoomFor number 1) rfl) (cwV 1 hts (gV ml_X1_36 im_X6_haveRoomFor se_X6_haveRoomFor in_X6 co_X6_haveRoomFor) rfl rfl rfl (by decide +kernel) ⟨Nat.le_of_ble_eq_true rfl, Nat.le_of_ble_eq_true rfl⟩) (cP_V hK hP hD [10, 11, 12, 13, 14, 15, 16, 17, 18, 19, 20] rfl rfl 10 rfl rfl) rfl rfl hl.1 rfl (lv_room (Nat.le_of_ble_eq_true rfl)) dX1_makeKey_50 ⟨Nat.zero_le _, Nat.zero_le _⟩) hP hD hS hA [10, 11, 12, 13, 14, 15, 16, 17, 18, 19, 20] rfl (fun H locs hP hS => ?_)
            refine lv_if_ne (tgt := 59) hx hb dX1_makeKey_53 (by decide) (fun c20 => ?_) (fun c20 => ?_)
            · have h := (if_neg c20).symm.trans h
              exact kB59 mostWear keys liveKeys parents makes wears number heldKeys heldWhats closers closerMakes stands y1 z0 h _ _ hP hD hS ls (lv_sub hl [1, 2, 0] rfl)
            · have h := (if_pos c20).symm.trans h
              refine lv_bipush (v := (-4)) hx hb dX1_makeKey_56 (by decide) ?_
              obtain rfl := Option.some.inj h
              exact e_i hx hb hr hlocks hP hS dX1_makeKey_58
      · have h := (if_pos c17).symm.trans h
        refine lv_iconst (v := (-1)) hx hb dX1_makeKey_27 (by decide) ?_
        obtain rfl := Option.some.inj h
        exact e_i hx hb hr hlocks hP hS dX1_makeKey_28
  have hl := lv_entry ([.ref h0, .int x1]) (n := 4) (Nat.le_of_ble_eq_true rfl)
  rw [lg_entry_eq]
  generalize (lg_sl ([.ref h0, .int x1]) ++ List.replicate (4 - (lg_sl ([.ref h0, .int x1])).length) Slot.unset).toArray = ls at hl ⊢
  have hl : lv_has ls 4 [(0, .ref h0), (1, .int x1)] := hl
  unfold fX1_makeKey at h
  refine lv_iload_n hx hb dX1_makeKey_0 rfl (lv_at hl 1 rfl) ?_
  refine lv_bipush (v := (-6)) hx hb dX1_makeKey_1 (by decide) ?_
  refine lv_icmp_ne (tgt := 10) hx hb dX1_makeKey_3 (by decide) (fun c21 => ?_) (fun c21 => ?_)
  · have h := (if_neg c21).symm.trans h
    refine lv_iconst (v := 0) hx hb dX1_makeKey_10 (by decide) ?_
    exact kB11 mostWear keys liveKeys parents makes wears number heldKeys heldWhats closers closerMakes stands x1 0 h _ _ hP hD hS ls (lv_sub hl [0, 1] rfl)
  · have h := (if_pos c21).symm.trans h
    refine lv_iconst (v := 1) hx hb dX1_makeKey_6 (by decide) ?_
    refine lv_goto (tgt := 11) hx hb dX1_makeKey_7 (by decide) ?_
    exact kB11 mostWear keys liveKeys parents makes wears number heldKeys heldWhats closers closerMakes stands x1 1 h _ _ hP hD hS ls (lv_sub hl [0, 1] rfl)

noncomputable def fX1_wrapBox (makes : Nat → Int32) (wears : Nat → Int32) (keysOfBoxes : Nat → Int32) (number : Int32) (heldKeys : Nat → Int32) (heldWhats : Nat → Int32) (closers : Nat → Int32) (closerMakes : Nat → Int32) (stands : Nat → Int32) (x1 : Int32) : Option ((Nat → Int32) × Int32 × (Nat → Int32) × (Nat → Int32) × (Nat → Int32) × (Nat → Int32) × (Nat → Int32)) :=
  ((fX6_add number heldKeys heldWhats closers closerMakes stands (-6) x1 (fX5_keyOfBox keysOfBoxes x1) (fX5_makeOf makes (fX5_keyOfBox keysOfBoxes x1))).bind fun q1 => (some ((fX5_wearDown wears (fX5_keyOfBox keysOfBoxes x1)), q1.1, q1.2.1, q1.2.2.1, q1.2.2.2.1, q1.2.2.2.2.1, q1.2.2.2.2.2)))
set_option maxHeartbeats 1000000 in
set_option maxRecDepth 100000 in
theorem mX1_wrapBox (l : Launch) (dC : Nat → ClassId) (dI : Nat → Nat → Nat) (cyI cyO cyL : ClassId) (h0 t0 t1 t2 t3 t4 t5 t6 t7 t8 w0 w1 w2 w3 w4 w5 w6 w7 w8 w9 w10 : Nat) (mostWear : Int32) (keys : Int32) (boxes : Int32) (liveKeys : Int32) (liveBoxes : Int32) (parents : Nat → Int32) (makes : Nat → Int32) (wears : Nat → Int32) (keysOfBoxes : Nat → Int32) (number : Int32) (heldKeys : Nat → Int32) (heldWhats : Nat → Int32) (closers : Nat → Int32) (closerMakes : Nat → Int32) (stands : Nat → Int32) (x1 : Int32) (sz : Nat) (res : (Nat → Int32) × Int32 × (Nat → Int32) × (Nat → Int32) × (Nat → Int32) × (Nat → Int32) × (Nat → Int32)) (h : fX1_wrapBox makes wears keysOfBoxes number heldKeys heldWhats closers closerMakes stands x1 = some res) : Met l yX1_wrapBox (wsG yX1_wrapBox cX1_wrapBox 3 none) ({ frames := 2, cells := 0, slots := 0, locals := 46 }) (cP dC dI cyI cyO cyL sz [.ref h0, .int x1] (houseW cyI h0 t0 t1 t2 t3 t4 t5 t6 t7 t8 w0 w1 w2 w3 w4 w5 w6 w7 w8 w9 w10 mostWear keys boxes liveKeys liveBoxes parents makes wears keysOfBoxes number heldKeys heldWhats closers closerMakes stands)) (cV dC dI (houseW cyI h0 t0 t1 t2 t3 t4 t5 t6 t7 t8 w0 w1 w2 w3 w4 w5 w6 w7 w8 w9 w10 mostWear keys boxes liveKeys liveBoxes parents makes res.1 keysOfBoxes res.2.1 res.2.2.1 res.2.2.2.1 res.2.2.2.2.1 res.2.2.2.2.2.1 res.2.2.2.2.2.2) (va_A (houseW cyI h0 t0 t1 t2 t3 t4 t5 t6 t7 t8 w0 w1 w2 w3 w4 w5 w6 w7 w8 w9 w10 mostWear keys boxes liveKeys liveBoxes parents makes wears keysOfBoxes number heldKeys heldWhats closers closerMakes stands) sz)) 0 0 (va_A (houseW cyI h0 t0 t1 t2 t3 t4 t5 t6 t7 t8 w0 w1 w2 w3 w4 w5 w6 w7 w8 w9 w10 mostWear keys boxes liveKeys liveBoxes parents makes wears keysOfBoxes number heldKeys heldWhats closers closerMakes stands) sz) := by
  refine Met.ofW (cc := cX1_wrapBox) (maxL := 3) (ret := none) (by decide) rfl ?_
  intro p e s m args below meth c s₁ B hml hv
  obtain ⟨rfl, hsz, hP, hK, hD0⟩ := hv
  have hx := B.exec
  have hb := B.bytes
  have hr := B.returns
  have hts := atoms_spec (ws := wsG yX1_wrapBox cX1_wrapBox 3 none) B.pre
  have hown : s.vm.findClass RX1 = some m.cls := findClass_of_methodNamed B.named
  have hlocks := B.notSynchronized
  subst hsz
  have hD := hD0.self (sz := s.heap.size)
  generalize hAe : va_A (houseW cyI h0 t0 t1 t2 t3 t4 t5 t6 t7 t8 w0 w1 w2 w3 w4 w5 w6 w7 w8 w9 w10 mostWear keys boxes liveKeys liveBoxes parents makes wears keysOfBoxes number heldKeys heldWhats closers closerMakes stands) s.heap.size = A at hD ⊢
  have hA : ∀ q : Nat, s.heap.size ≤ q → A q := fun q h => by rw [← hAe]; exact Or.inr h
  have hS : va_S A s.heap s.heap [] := va_S.rf
  have hl := lv_entry ([.ref h0, .int x1]) (n := 3) (Nat.le_of_ble_eq_true rfl)
  rw [lg_entry_eq]
  generalize (lg_sl ([.ref h0, .int x1]) ++ List.replicate (3 - (lg_sl ([.ref h0, .int x1])).length) Slot.unset).toArray = ls at hl ⊢
  have hl : lv_has ls 3 [(0, .ref h0), (1, .int x1)] := hl
  unfold fX1_wrapBox at h
  refine lv_aload_n hx hb dX1_wrapBox_0 rfl (lv_at hl 0 rfl) ?_
  refine va_get (D := (dC, dI)) (ci := 1) (v := .ref t0) (C := RX1) (T := TX1) (N := 2) hx hb hts (fun w h9 => gb_mem (lay_X1 w h9)) hown hK.1 hP 0 rfl rfl 0 (by decide) (hts _ (gb_mem fl_X1_12)) (fun _ h9 => h9) rfl dX1_wrapBox_1 ?_
  refine lv_iload_n hx hb dX1_wrapBox_4 rfl (lv_at hl 1 rfl) ?_
  refine fr_ir (M := (treeW cyI t0 t1 t2 t3 t4 t5 t6 t7 t8 mostWear keys boxes liveKeys liveBoxes parents makes wears keysOfBoxes)) (va_runV (As := [.int x1]) (rest := []) ⟨hx, hb, hml, hown, hts⟩ (mX5_keyOfBox l dC dI cyI cyO cyL t0 t1 t2 t3 t4 t5 t6 t7 t8 mostWear keys boxes liveKeys liveBoxes parents makes wears keysOfBoxes x1 _ (fX5_keyOfBox keysOfBoxes x1) rfl) (cwV 1 hts (gV ml_X1_142 im_X5_keyOfBox se_X5_keyOfBox in_X5 co_X5_keyOfBox) rfl rfl rfl (by decide +kernel) ⟨Nat.le_of_ble_eq_true rfl, Nat.le_of_ble_eq_true rfl⟩) (cP_V hK hP hD [1, 2, 3, 4, 5, 6, 7, 8, 9] rfl rfl 1 rfl rfl) rfl rfl hl.1 rfl (lv_room (Nat.le_of_ble_eq_true rfl)) dX1_wrapBox_5 ⟨Nat.zero_le _, Nat.zero_le _⟩) hP hD hS hA [1, 2, 3, 4, 5, 6, 7, 8, 9] rfl (fun H locs hP hS => ?_)
  refine lv_istore_n (lv' := [(2, .int (fX5_keyOfBox keysOfBoxes x1)), (0, .ref h0), (1, .int x1)]) hx hb dX1_wrapBox_8 rfl hl (by decide) rfl (fun ls hl => ?_)
  refine lv_aload_n hx hb dX1_wrapBox_9 rfl (lv_at hl 1 rfl) ?_
  refine va_get (D := (dC, dI)) (ci := 1) (v := .ref w0) (C := RX1) (T := TX1) (N := 2) hx hb hts (fun w h9 => gb_mem (lay_X1 w h9)) hown hK.1 hP 0 rfl rfl 1 (by decide) (hts _ (gb_mem fl_X1_21)) (fun _ h9 => h9) rfl dX1_wrapBox_10 ?_
  refine lv_bipush (v := (-6)) hx hb dX1_wrapBox_13 (by decide) ?_
  refine lv_iload_n hx hb dX1_wrapBox_15 rfl (lv_at hl 2 rfl) ?_
  refine lv_iload_n hx hb dX1_wrapBox_16 rfl (lv_at hl 0 rfl) ?_
  refine lv_aload_n hx hb dX1_wrapBox_17 rfl (lv_at hl 1 rfl) ?_
  refine va_get (D := (dC, dI)) (ci := 1) (v := .ref t0) (C := RX1) (T := TX1) (N := 2) hx hb hts (fun w h9 => gb_mem (lay_X1 w h9)) hown hK.1 hP 0 rfl rfl 0 (by decide) (hts _ (gb_mem fl_X1_12)) (fun _ h9 => h9) rfl dX1_wrapBox_18 ?_
  refine lv_iload_n hx hb dX1_wrapBox_21 rfl (lv_at hl 0 rfl) ?_
  refine fr_ir (M := (treeW cyI t0 t1 t2 t3 t4 t5 t6 t7 t8 mostWear keys boxes liveKeys liveBoxes parents makes wears keysOfBoxes)) (va_runV (As := [.int (fX5_keyOfBox keysOfBoxes x1)]) (rest := [.int (fX5_keyOfBox keysOfBoxes x1), .int x1, .int (-6), .ref w0]) ⟨hx, hb, hml, hown, hts⟩ (mX5_makeOf l dC dI cyI cyO cyL t0 t1 t2 t3 t4 t5 t6 t7 t8 mostWear keys boxes liveKeys liveBoxes parents makes wears keysOfBoxes (fX5_keyOfBox keysOfBoxes x1) _ (fX5_makeOf makes (fX5_keyOfBox keysOfBoxes x1)) rfl) (cwV 1 hts (gV ml_X1_129 im_X5_makeOf se_X5_makeOf in_X5 co_X5_makeOf) rfl rfl rfl (by decide +kernel) ⟨Nat.le_of_ble_eq_true rfl, Nat.le_of_ble_eq_true rfl⟩) (cP_V hK hP hD [1, 2, 3, 4, 5, 6, 7, 8, 9] rfl rfl 1 rfl rfl) rfl rfl hl.1 rfl (lv_room (Nat.le_of_ble_eq_true rfl)) dX1_wrapBox_22 ⟨Nat.zero_le _, Nat.zero_le _⟩) hP hD hS hA [1, 2, 3, 4, 5, 6, 7, 8, 9] rfl (fun H locs hP hS => ?_)
  obtain ⟨q1, e2, h⟩ := ob h
  refine fr_v (M := (wrapsW cyI w0 w1 w2 w3 w4 w5 w6 w7 w8 w9 w10 number heldKeys heldWhats closers closerMakes stands)) (M' := (wrapsW cyI w0 w1 w2 w3 w4 w5 w6 w7 w8 w9 w10 q1.1 q1.2.1 q1.2.2.1 q1.2.2.2.1 q1.2.2.2.2.1 q1.2.2.2.2.2)) (L' := (houseW cyI h0 t0 t1 t2 t3 t4 t5 t6 t7 t8 w0 w1 w2 w3 w4 w5 w6 w7 w8 w9 w10 mostWear keys boxes liveKeys liveBoxes parents makes wears keysOfBoxes q1.1 q1.2.1 q1.2.2.1 q1.2.2.2.1 q1.2.2.2.2.1 q1.2.2.2.2.2)) (va_runV (As := [.int (-6), .int x1, .int (fX5_keyOfBox keysOfBoxes x1), .int (fX5_makeOf makes (fX5_keyOfBox keysOfBoxes x1))]) (rest := []) ⟨hx, hb, hml, hown, hts⟩ (mX6_add l dC dI cyI cyO cyL w0 w1 w2 w3 w4 w5 w6 w7 w8 w9 w10 number heldKeys heldWhats closers closerMakes stands (-6) x1 (fX5_keyOfBox keysOfBoxes x1) (fX5_makeOf makes (fX5_keyOfBox keysOfBoxes x1)) _ q1 e2) (cwV 4 hts (gV ml_X1_135 im_X6_add se_X6_add in_X6 co_X6_add) rfl rfl rfl (by decide +kernel) ⟨Nat.le_of_ble_eq_true rfl, Nat.le_of_ble_eq_true rfl⟩) (cP_V hK hP hD [10, 11, 12, 13, 14, 15, 16, 17, 18, 19, 20] rfl rfl 10 rfl rfl) rfl rfl hl.1 rfl (lv_room (Nat.le_of_ble_eq_true rfl)) dX1_wrapBox_25 ⟨Nat.zero_le _, Nat.zero_le _⟩) hP hD hS hA [10, 11, 12, 13, 14, 15, 16, 17, 18, 19, 20] rfl [(false, 0), (false, 1), (false, 2), (false, 3), (false, 4), (false, 5), (false, 6), (false, 7), (false, 8), (false, 9), (true, 0), (true, 1), (true, 2), (true, 3), (true, 4), (true, 5), (true, 6), (true, 7), (true, 8), (true, 9), (true, 10)] rfl rfl rfl (fun H locs hP hD hS => ?_)
  refine lv_aload_n hx hb dX1_wrapBox_28 rfl (lv_at hl 1 rfl) ?_
  refine va_get (D := (dC, dI)) (ci := 1) (v := .ref t0) (C := RX1) (T := TX1) (N := 2) hx hb hts (fun w h9 => gb_mem (lay_X1 w h9)) hown hK.1 hP 0 rfl rfl 0 (by decide) (hts _ (gb_mem fl_X1_12)) (fun _ h9 => h9) rfl dX1_wrapBox_29 ?_
  refine lv_iload_n hx hb dX1_wrapBox_32 rfl (lv_at hl 0 rfl) ?_
  refine fr_v (M := (treeW cyI t0 t1 t2 t3 t4 t5 t6 t7 t8 mostWear keys boxes liveKeys liveBoxes parents makes wears keysOfBoxes)) (M' := (treeW cyI t0 t1 t2 t3 t4 t5 t6 t7 t8 mostWear keys boxes liveKeys liveBoxes parents makes (fX5_wearDown wears (fX5_keyOfBox keysOfBoxes x1)) keysOfBoxes)) (L' := (houseW cyI h0 t0 t1 t2 t3 t4 t5 t6 t7 t8 w0 w1 w2 w3 w4 w5 w6 w7 w8 w9 w10 mostWear keys boxes liveKeys liveBoxes parents makes (fX5_wearDown wears (fX5_keyOfBox keysOfBoxes x1)) keysOfBoxes q1.1 q1.2.1 q1.2.2.1 q1.2.2.2.1 q1.2.2.2.2.1 q1.2.2.2.2.2)) (va_runV (As := [.int (fX5_keyOfBox keysOfBoxes x1)]) (rest := []) ⟨hx, hb, hml, hown, hts⟩ (mX5_wearDown l dC dI cyI cyO cyL t0 t1 t2 t3 t4 t5 t6 t7 t8 mostWear keys boxes liveKeys liveBoxes parents makes wears keysOfBoxes (fX5_keyOfBox keysOfBoxes x1) _ (fX5_wearDown wears (fX5_keyOfBox keysOfBoxes x1)) rfl) (cwV 1 hts (gV ml_X1_139 im_X5_wearDown se_X5_wearDown in_X5 co_X5_wearDown) rfl rfl rfl (by decide +kernel) ⟨Nat.le_of_ble_eq_true rfl, Nat.le_of_ble_eq_true rfl⟩) (cP_V hK hP hD [1, 2, 3, 4, 5, 6, 7, 8, 9] rfl rfl 1 rfl rfl) rfl rfl hl.1 rfl (lv_room (Nat.le_of_ble_eq_true rfl)) dX1_wrapBox_33 ⟨Nat.zero_le _, Nat.zero_le _⟩) hP hD hS hA [1, 2, 3, 4, 5, 6, 7, 8, 9] rfl [(false, 0), (true, 0), (true, 1), (true, 2), (true, 3), (true, 4), (true, 5), (true, 6), (true, 7), (true, 8), (false, 10), (false, 11), (false, 12), (false, 13), (false, 14), (false, 15), (false, 16), (false, 17), (false, 18), (false, 19), (false, 20)] rfl rfl rfl (fun H locs hP hD hS => ?_)
  obtain rfl := Option.some.inj h
  exact e_v hx hb hr hlocks hP hS dX1_wrapBox_36

noncomputable def fX1_makeBox (mostWear : Int32) (boxes : Int32) (liveKeys : Int32) (liveBoxes : Int32) (makes : Nat → Int32) (wears : Nat → Int32) (keysOfBoxes : Nat → Int32) (number : Int32) (heldKeys : Nat → Int32) (heldWhats : Nat → Int32) (closers : Nat → Int32) (closerMakes : Nat → Int32) (stands : Nat → Int32) (x1 : Int32) : Option (Int32 × Int32 × Int32 × (Nat → Int32) × (Nat → Int32) × Int32 × (Nat → Int32) × (Nat → Int32) × (Nat → Int32) × (Nat → Int32) × (Nat → Int32)) :=
  (if (fX5_isLiveKey liveKeys x1) = 0 then (some ((-1), boxes, liveBoxes, wears, keysOfBoxes, number, heldKeys, heldWhats, closers, closerMakes, stands)) else (if 20 ≤ boxes then (some ((-4), boxes, liveBoxes, wears, keysOfBoxes, number, heldKeys, heldWhats, closers, closerMakes, stands)) else (if (fX6_haveRoomFor number 1) = 0 then (some ((-4), boxes, liveBoxes, wears, keysOfBoxes, number, heldKeys, heldWhats, closers, closerMakes, stands)) else (if (fX5_leftToClose mostWear wears x1) = 0 then (some ((-5), boxes, liveBoxes, wears, keysOfBoxes, number, heldKeys, heldWhats, closers, closerMakes, stands)) else ((fX5_addBox boxes liveBoxes keysOfBoxes x1).bind fun q5 => ((fX1_wrapBox makes wears q5.2.2.2 number heldKeys heldWhats closers closerMakes stands q5.1).bind fun q7 => (some (q5.1, q5.2.1, q5.2.2.1, q7.1, q5.2.2.2, q7.2.1, q7.2.2.1, q7.2.2.2.1, q7.2.2.2.2.1, q7.2.2.2.2.2.1, q7.2.2.2.2.2.2))))))))
set_option maxHeartbeats 1000000 in
set_option maxRecDepth 100000 in
theorem mX1_makeBox (l : Launch) (dC : Nat → ClassId) (dI : Nat → Nat → Nat) (cyI cyO cyL : ClassId) (h0 t0 t1 t2 t3 t4 t5 t6 t7 t8 w0 w1 w2 w3 w4 w5 w6 w7 w8 w9 w10 : Nat) (mostWear : Int32) (keys : Int32) (boxes : Int32) (liveKeys : Int32) (liveBoxes : Int32) (parents : Nat → Int32) (makes : Nat → Int32) (wears : Nat → Int32) (keysOfBoxes : Nat → Int32) (number : Int32) (heldKeys : Nat → Int32) (heldWhats : Nat → Int32) (closers : Nat → Int32) (closerMakes : Nat → Int32) (stands : Nat → Int32) (x1 : Int32) (sz : Nat) (res : Int32 × Int32 × Int32 × (Nat → Int32) × (Nat → Int32) × Int32 × (Nat → Int32) × (Nat → Int32) × (Nat → Int32) × (Nat → Int32) × (Nat → Int32)) (h : fX1_makeBox mostWear boxes liveKeys liveBoxes makes wears keysOfBoxes number heldKeys heldWhats closers closerMakes stands x1 = some res) : Met l yX1_makeBox (wsG yX1_makeBox cX1_makeBox 3 (some .int)) ({ frames := 3, cells := 0, slots := 0, locals := 68 }) (cP dC dI cyI cyO cyL sz [.ref h0, .int x1] (houseW cyI h0 t0 t1 t2 t3 t4 t5 t6 t7 t8 w0 w1 w2 w3 w4 w5 w6 w7 w8 w9 w10 mostWear keys boxes liveKeys liveBoxes parents makes wears keysOfBoxes number heldKeys heldWhats closers closerMakes stands)) (cI dC dI res.1 (houseW cyI h0 t0 t1 t2 t3 t4 t5 t6 t7 t8 w0 w1 w2 w3 w4 w5 w6 w7 w8 w9 w10 mostWear keys res.2.1 liveKeys res.2.2.1 parents makes res.2.2.2.1 res.2.2.2.2.1 res.2.2.2.2.2.1 res.2.2.2.2.2.2.1 res.2.2.2.2.2.2.2.1 res.2.2.2.2.2.2.2.2.1 res.2.2.2.2.2.2.2.2.2.1 res.2.2.2.2.2.2.2.2.2.2) (va_A (houseW cyI h0 t0 t1 t2 t3 t4 t5 t6 t7 t8 w0 w1 w2 w3 w4 w5 w6 w7 w8 w9 w10 mostWear keys boxes liveKeys liveBoxes parents makes wears keysOfBoxes number heldKeys heldWhats closers closerMakes stands) sz)) 0 0 (va_A (houseW cyI h0 t0 t1 t2 t3 t4 t5 t6 t7 t8 w0 w1 w2 w3 w4 w5 w6 w7 w8 w9 w10 mostWear keys boxes liveKeys liveBoxes parents makes wears keysOfBoxes number heldKeys heldWhats closers closerMakes stands) sz) := by
  refine Met.ofW (cc := cX1_makeBox) (maxL := 3) (ret := (some .int)) (by decide) rfl ?_
  intro p e s m args below meth c s₁ B hml hv
  obtain ⟨rfl, hsz, hP, hK, hD0⟩ := hv
  have hx := B.exec
  have hb := B.bytes
  have hr := B.returns
  have hts := atoms_spec (ws := wsG yX1_makeBox cX1_makeBox 3 (some .int)) B.pre
  have hown : s.vm.findClass RX1 = some m.cls := findClass_of_methodNamed B.named
  have hlocks := B.notSynchronized
  subst hsz
  have hD := hD0.self (sz := s.heap.size)
  generalize hAe : va_A (houseW cyI h0 t0 t1 t2 t3 t4 t5 t6 t7 t8 w0 w1 w2 w3 w4 w5 w6 w7 w8 w9 w10 mostWear keys boxes liveKeys liveBoxes parents makes wears keysOfBoxes number heldKeys heldWhats closers closerMakes stands) s.heap.size = A at hD ⊢
  have hA : ∀ q : Nat, s.heap.size ≤ q → A q := fun q h => by rw [← hAe]; exact Or.inr h
  have hS : va_S A s.heap s.heap [] := va_S.rf
  have hl := lv_entry ([.ref h0, .int x1]) (n := 3) (Nat.le_of_ble_eq_true rfl)
  rw [lg_entry_eq]
  generalize (lg_sl ([.ref h0, .int x1]) ++ List.replicate (3 - (lg_sl ([.ref h0, .int x1])).length) Slot.unset).toArray = ls at hl ⊢
  have hl : lv_has ls 3 [(0, .ref h0), (1, .int x1)] := hl
  unfold fX1_makeBox at h
  refine lv_aload_n hx hb dX1_makeBox_0 rfl (lv_at hl 0 rfl) ?_
  refine va_get (D := (dC, dI)) (ci := 1) (v := .ref t0) (C := RX1) (T := TX1) (N := 2) hx hb hts (fun w h9 => gb_mem (lay_X1 w h9)) hown hK.1 hP 0 rfl rfl 0 (by decide) (hts _ (gb_mem fl_X1_12)) (fun _ h9 => h9) rfl dX1_makeBox_1 ?_
  refine lv_iload_n hx hb dX1_makeBox_4 rfl (lv_at hl 1 rfl) ?_
  refine fr_ir (M := (treeW cyI t0 t1 t2 t3 t4 t5 t6 t7 t8 mostWear keys boxes liveKeys liveBoxes parents makes wears keysOfBoxes)) (va_runV (As := [.int x1]) (rest := []) ⟨hx, hb, hml, hown, hts⟩ (mX5_isLiveKey l dC dI cyI cyO cyL t0 t1 t2 t3 t4 t5 t6 t7 t8 mostWear keys boxes liveKeys liveBoxes parents makes wears keysOfBoxes x1 _ (fX5_isLiveKey liveKeys x1) rfl) (cwV 1 hts (gV ml_X1_29 im_X5_isLiveKey se_X5_isLiveKey in_X5 co_X5_isLiveKey) rfl rfl rfl (by decide +kernel) ⟨Nat.le_of_ble_eq_true rfl, Nat.le_of_ble_eq_true rfl⟩) (cP_V hK hP hD [1, 2, 3, 4, 5, 6, 7, 8, 9] rfl rfl 1 rfl rfl) rfl rfl hl.1 rfl (lv_room (Nat.le_of_ble_eq_true rfl)) dX1_makeBox_5 ⟨Nat.zero_le _, Nat.zero_le _⟩) hP hD hS hA [1, 2, 3, 4, 5, 6, 7, 8, 9] rfl (fun H locs hP hS => ?_)
  refine lv_if_ne (tgt := 13) hx hb dX1_makeBox_8 (by decide) (fun c1 => ?_) (fun c1 => ?_)
  · have h := (if_neg c1).symm.trans h
    refine lv_aload_n hx hb dX1_makeBox_13 rfl (lv_at hl 0 rfl) ?_
    refine va_get (D := (dC, dI)) (ci := 1) (v := .ref t0) (C := RX1) (T := TX1) (N := 2) hx hb hts (fun w h9 => gb_mem (lay_X1 w h9)) hown hK.1 hP 0 rfl rfl 0 (by decide) (hts _ (gb_mem fl_X1_12)) (fun _ h9 => h9) rfl dX1_makeBox_14 ?_
    refine va_getN (D := (dC, dI)) (ci := 5) (v := .int boxes) (C := RX5) (T := TX5) (N := 9) hx hb hts (fun w h9 => gb_mem (lay_X5 w h9)) hown hK.1 hP 1 rfl rfl 2 (by decide) (va_Nw.use rfl (hK.2 _ nl_X1_50)) (fun _ h9 => h9) rfl dX1_makeBox_17 ?_
    refine lv_bipush (v := 20) hx hb dX1_makeBox_20 (by decide) ?_
    refine lv_icmp_ge (tgt := 36) hx hb dX1_makeBox_22 (by decide) (fun c2 => ?_) (fun c2 => ?_)
    · have h := (if_pos c2).symm.trans h
      refine lv_bipush (v := (-4)) hx hb dX1_makeBox_36 (by decide) ?_
      obtain rfl := Option.some.inj h
      exact e_i hx hb hr hlocks hP hS dX1_makeBox_38
    · have h := (if_neg c2).symm.trans h
      refine lv_aload_n hx hb dX1_makeBox_25 rfl (lv_at hl 0 rfl) ?_
      refine va_get (D := (dC, dI)) (ci := 1) (v := .ref w0) (C := RX1) (T := TX1) (N := 2) hx hb hts (fun w h9 => gb_mem (lay_X1 w h9)) hown hK.1 hP 0 rfl rfl 1 (by decide) (hts _ (gb_mem fl_X1_21)) (fun _ h9 => h9) rfl dX1_makeBox_26 ?_
      refine lv_iconst (v := 1) hx hb dX1_makeBox_29 (by decide) ?_
      refine fr_ir (M := (wrapsW cyI w0 w1 w2 w3 w4 w5 w6 w7 w8 w9 w10 number heldKeys heldWhats closers closerMakes stands)) (va_runV (As := [.int 1]) (rest := []) ⟨hx, hb, hml, hown, hts⟩ (mX6_haveRoomFor l dC dI cyI cyO cyL w0 w1 w2 w3 w4 w5 w6 w7 w8 w9 w10 number heldKeys heldWhats closers closerMakes stands 1 _ (fX6_haveRoomFor number 1) rfl) (cwV 1 hts (gV ml_X1_36 im_X6_haveRoomFor se_X6_haveRoomFor in_X6 co_X6_haveRoomFor) rfl rfl rfl (by decide +kernel) ⟨Nat.le_of_ble_eq_true rfl, Nat.le_of_ble_eq_true rfl⟩) (cP_V hK hP hD [10, 11, 12, 13, 14, 15, 16, 17, 18, 19, 20] rfl rfl 10 rfl rfl) rfl rfl hl.1 rfl (lv_room (Nat.le_of_ble_eq_true rfl)) dX1_makeBox_30 ⟨Nat.zero_le _, Nat.zero_le _⟩) hP hD hS hA [10, 11, 12, 13, 14, 15, 16, 17, 18, 19, 20] rfl (fun H locs hP hS => ?_)
      refine lv_if_ne (tgt := 39) hx hb dX1_makeBox_33 (by decide) (fun c3 => ?_) (fun c3 => ?_)
      · have h := (if_neg c3).symm.trans h
        refine lv_aload_n hx hb dX1_makeBox_39 rfl (lv_at hl 0 rfl) ?_
        refine va_get (D := (dC, dI)) (ci := 1) (v := .ref t0) (C := RX1) (T := TX1) (N := 2) hx hb hts (fun w h9 => gb_mem (lay_X1 w h9)) hown hK.1 hP 0 rfl rfl 0 (by decide) (hts _ (gb_mem fl_X1_12)) (fun _ h9 => h9) rfl dX1_makeBox_40 ?_
        refine lv_iload_n hx hb dX1_makeBox_43 rfl (lv_at hl 1 rfl) ?_
        refine fr_ir (M := (treeW cyI t0 t1 t2 t3 t4 t5 t6 t7 t8 mostWear keys boxes liveKeys liveBoxes parents makes wears keysOfBoxes)) (va_runV (As := [.int x1]) (rest := []) ⟨hx, hb, hml, hown, hts⟩ (mX5_leftToClose l dC dI cyI cyO cyL t0 t1 t2 t3 t4 t5 t6 t7 t8 mostWear keys boxes liveKeys liveBoxes parents makes wears keysOfBoxes x1 _ (fX5_leftToClose mostWear wears x1) rfl) (cwV 1 hts (gV ml_X1_39 im_X5_leftToClose se_X5_leftToClose in_X5 co_X5_leftToClose) rfl rfl rfl (by decide +kernel) ⟨Nat.le_of_ble_eq_true rfl, Nat.le_of_ble_eq_true rfl⟩) (cP_V hK hP hD [1, 2, 3, 4, 5, 6, 7, 8, 9] rfl rfl 1 rfl rfl) rfl rfl hl.1 rfl (lv_room (Nat.le_of_ble_eq_true rfl)) dX1_makeBox_44 ⟨Nat.zero_le _, Nat.zero_le _⟩) hP hD hS hA [1, 2, 3, 4, 5, 6, 7, 8, 9] rfl (fun H locs hP hS => ?_)
        refine lv_if_ne (tgt := 53) hx hb dX1_makeBox_47 (by decide) (fun c4 => ?_) (fun c4 => ?_)
        · have h := (if_neg c4).symm.trans h
          refine lv_aload_n hx hb dX1_makeBox_53 rfl (lv_at hl 0 rfl) ?_
          refine va_get (D := (dC, dI)) (ci := 1) (v := .ref t0) (C := RX1) (T := TX1) (N := 2) hx hb hts (fun w h9 => gb_mem (lay_X1 w h9)) hown hK.1 hP 0 rfl rfl 0 (by decide) (hts _ (gb_mem fl_X1_12)) (fun _ h9 => h9) rfl dX1_makeBox_54 ?_
          refine lv_iload_n hx hb dX1_makeBox_57 rfl (lv_at hl 1 rfl) ?_
          obtain ⟨q5, e6, h⟩ := ob h
          refine fr_i (M := (treeW cyI t0 t1 t2 t3 t4 t5 t6 t7 t8 mostWear keys boxes liveKeys liveBoxes parents makes wears keysOfBoxes)) (M' := (treeW cyI t0 t1 t2 t3 t4 t5 t6 t7 t8 mostWear keys q5.2.1 liveKeys q5.2.2.1 parents makes wears q5.2.2.2)) (L' := (houseW cyI h0 t0 t1 t2 t3 t4 t5 t6 t7 t8 w0 w1 w2 w3 w4 w5 w6 w7 w8 w9 w10 mostWear keys q5.2.1 liveKeys q5.2.2.1 parents makes wears q5.2.2.2 number heldKeys heldWhats closers closerMakes stands)) (va_runV (As := [.int x1]) (rest := []) ⟨hx, hb, hml, hown, hts⟩ (mX5_addBox l dC dI cyI cyO cyL t0 t1 t2 t3 t4 t5 t6 t7 t8 mostWear keys boxes liveKeys liveBoxes parents makes wears keysOfBoxes x1 _ q5 e6) (cwV 1 hts (gV ml_X1_53 im_X5_addBox se_X5_addBox in_X5 co_X5_addBox) rfl rfl rfl (by decide +kernel) ⟨Nat.le_of_ble_eq_true rfl, Nat.le_of_ble_eq_true rfl⟩) (cP_V hK hP hD [1, 2, 3, 4, 5, 6, 7, 8, 9] rfl rfl 1 rfl rfl) rfl rfl hl.1 rfl (lv_room (Nat.le_of_ble_eq_true rfl)) dX1_makeBox_58 ⟨Nat.zero_le _, Nat.zero_le _⟩) hP hD hS hA [1, 2, 3, 4, 5, 6, 7, 8, 9] rfl [(false, 0), (true, 0), (true, 1), (true, 2), (true, 3), (true, 4), (true, 5), (true, 6), (true, 7), (true, 8), (false, 10), (false, 11), (false, 12), (false, 13), (false, 14), (false, 15), (false, 16), (false, 17), (false, 18), (false, 19), (false, 20)] rfl rfl rfl (fun H locs hP hD hS => ?_)
          refine lv_istore_n (lv' := [(2, .int q5.1), (0, .ref h0), (1, .int x1)]) hx hb dX1_makeBox_61 rfl hl (by decide) rfl (fun ls hl => ?_)
          refine lv_aload_n hx hb dX1_makeBox_62 rfl (lv_at hl 1 rfl) ?_
          refine lv_iload_n hx hb dX1_makeBox_63 rfl (lv_at hl 0 rfl) ?_
          obtain ⟨q7, e8, h⟩ := ob h
          refine fr_v (M := (houseW cyI h0 t0 t1 t2 t3 t4 t5 t6 t7 t8 w0 w1 w2 w3 w4 w5 w6 w7 w8 w9 w10 mostWear keys q5.2.1 liveKeys q5.2.2.1 parents makes wears q5.2.2.2 number heldKeys heldWhats closers closerMakes stands)) (M' := (houseW cyI h0 t0 t1 t2 t3 t4 t5 t6 t7 t8 w0 w1 w2 w3 w4 w5 w6 w7 w8 w9 w10 mostWear keys q5.2.1 liveKeys q5.2.2.1 parents makes q7.1 q5.2.2.2 q7.2.1 q7.2.2.1 q7.2.2.2.1 q7.2.2.2.2.1 q7.2.2.2.2.2.1 q7.2.2.2.2.2.2)) (L' := (houseW cyI h0 t0 t1 t2 t3 t4 t5 t6 t7 t8 w0 w1 w2 w3 w4 w5 w6 w7 w8 w9 w10 mostWear keys q5.2.1 liveKeys q5.2.2.1 parents makes q7.1 q5.2.2.2 q7.2.1 q7.2.2.1 q7.2.2.2.1 q7.2.2.2.2.1 q7.2.2.2.2.2.1 q7.2.2.2.2.2.2)) (va_runV (As := [.int q5.1]) (rest := []) ⟨hx, hb, hml, hown, hts⟩ (mX1_wrapBox l dC dI cyI cyO cyL h0 t0 t1 t2 t3 t4 t5 t6 t7 t8 w0 w1 w2 w3 w4 w5 w6 w7 w8 w9 w10 mostWear keys q5.2.1 liveKeys q5.2.2.1 parents makes wears q5.2.2.2 number heldKeys heldWhats closers closerMakes stands q5.1 _ q7 e8) (cwV 1 hts (gV ml_X1_56 im_X1_wrapBox se_X1_wrapBox in_X1 co_X1_wrapBox) rfl rfl rfl (by decide +kernel) ⟨Nat.le_of_ble_eq_true rfl, Nat.le_of_ble_eq_true rfl⟩) (cP_V hK hP hD [0, 1, 2, 3, 4, 5, 6, 7, 8, 9, 10, 11, 12, 13, 14, 15, 16, 17, 18, 19, 20] rfl rfl 0 rfl rfl) rfl rfl hl.1 rfl (lv_room (Nat.le_of_ble_eq_true rfl)) dX1_makeBox_64 ⟨Nat.zero_le _, Nat.zero_le _⟩) hP hD hS hA [0, 1, 2, 3, 4, 5, 6, 7, 8, 9, 10, 11, 12, 13, 14, 15, 16, 17, 18, 19, 20] rfl [(true, 0), (true, 1), (true, 2), (true, 3), (true, 4), (true, 5), (true, 6), (true, 7), (true, 8), (true, 9), (true, 10), (true, 11), (true, 12), (true, 13), (true, 14), (true, 15), (true, 16), (true, 17), (true, 18), (true, 19), (true, 20)] rfl rfl rfl (fun H locs hP hD hS => ?_)
          refine lv_iload_n hx hb dX1_makeBox_67 rfl (lv_at hl 0 rfl) ?_
          obtain rfl := Option.some.inj h
          exact e_i hx hb hr hlocks hP hS dX1_makeBox_68
        · have h := (if_pos c4).symm.trans h
          refine lv_bipush (v := (-5)) hx hb dX1_makeBox_50 (by decide) ?_
          obtain rfl := Option.some.inj h
          exact e_i hx hb hr hlocks hP hS dX1_makeBox_52
      · have h := (if_pos c3).symm.trans h
        refine lv_bipush (v := (-4)) hx hb dX1_makeBox_36 (by decide) ?_
        obtain rfl := Option.some.inj h
        exact e_i hx hb hr hlocks hP hS dX1_makeBox_38
  · have h := (if_pos c1).symm.trans h
    refine lv_iconst (v := (-1)) hx hb dX1_makeBox_11 (by decide) ?_
    obtain rfl := Option.some.inj h
    exact e_i hx hb hr hlocks hP hS dX1_makeBox_12

noncomputable def fX1_copyOut (number : Int32) (stands : Nat → Int32) (x1 : Int32) (x2 : Int32) : Option (Int32 × (Nat → Int32)) :=
  (if (fX6_isOne number x1) = 0 then (some ((-1), stands)) else (if x2 < 0 then (some ((-2), stands)) else (if x2 < 3 then (if (fX6_standsIn stands x1 8) = 0 then (some ((-5), stands)) else (if (fX6_standsIn stands x1 (fX7_setOf x2)) = 0 then ((fX6_standingIn number (fX6_standAlsoIn stands x1 x2) (fX7_setOf x2)).bind fun q6 => (some (q6, (fX6_standAlsoIn stands x1 x2)))) else (some ((-5), stands)))) else (some ((-2), stands)))))
set_option maxHeartbeats 1000000 in
set_option maxRecDepth 100000 in
theorem mX1_copyOut (l : Launch) (dC : Nat → ClassId) (dI : Nat → Nat → Nat) (cyI cyO cyL : ClassId) (h0 t0 t1 t2 t3 t4 t5 t6 t7 t8 w0 w1 w2 w3 w4 w5 w6 w7 w8 w9 w10 : Nat) (mostWear : Int32) (keys : Int32) (boxes : Int32) (liveKeys : Int32) (liveBoxes : Int32) (parents : Nat → Int32) (makes : Nat → Int32) (wears : Nat → Int32) (keysOfBoxes : Nat → Int32) (number : Int32) (heldKeys : Nat → Int32) (heldWhats : Nat → Int32) (closers : Nat → Int32) (closerMakes : Nat → Int32) (stands : Nat → Int32) (x1 : Int32) (x2 : Int32) (sz : Nat) (res : Int32 × (Nat → Int32)) (h : fX1_copyOut number stands x1 x2 = some res) : Met l yX1_copyOut (wsG yX1_copyOut cX1_copyOut 3 (some .int)) ({ frames := 2, cells := 0, slots := 0, locals := 44 }) (cP dC dI cyI cyO cyL sz [.ref h0, .int x1, .int x2] (houseW cyI h0 t0 t1 t2 t3 t4 t5 t6 t7 t8 w0 w1 w2 w3 w4 w5 w6 w7 w8 w9 w10 mostWear keys boxes liveKeys liveBoxes parents makes wears keysOfBoxes number heldKeys heldWhats closers closerMakes stands)) (cI dC dI res.1 (houseW cyI h0 t0 t1 t2 t3 t4 t5 t6 t7 t8 w0 w1 w2 w3 w4 w5 w6 w7 w8 w9 w10 mostWear keys boxes liveKeys liveBoxes parents makes wears keysOfBoxes number heldKeys heldWhats closers closerMakes res.2) (va_A (houseW cyI h0 t0 t1 t2 t3 t4 t5 t6 t7 t8 w0 w1 w2 w3 w4 w5 w6 w7 w8 w9 w10 mostWear keys boxes liveKeys liveBoxes parents makes wears keysOfBoxes number heldKeys heldWhats closers closerMakes stands) sz)) 0 0 (va_A (houseW cyI h0 t0 t1 t2 t3 t4 t5 t6 t7 t8 w0 w1 w2 w3 w4 w5 w6 w7 w8 w9 w10 mostWear keys boxes liveKeys liveBoxes parents makes wears keysOfBoxes number heldKeys heldWhats closers closerMakes stands) sz) := by
  refine Met.ofW (cc := cX1_copyOut) (maxL := 3) (ret := (some .int)) (by decide) rfl ?_
  intro p e s m args below meth c s₁ B hml hv
  obtain ⟨rfl, hsz, hP, hK, hD0⟩ := hv
  have hx := B.exec
  have hb := B.bytes
  have hr := B.returns
  have hts := atoms_spec (ws := wsG yX1_copyOut cX1_copyOut 3 (some .int)) B.pre
  have hown : s.vm.findClass RX1 = some m.cls := findClass_of_methodNamed B.named
  have hlocks := B.notSynchronized
  subst hsz
  have hD := hD0.self (sz := s.heap.size)
  generalize hAe : va_A (houseW cyI h0 t0 t1 t2 t3 t4 t5 t6 t7 t8 w0 w1 w2 w3 w4 w5 w6 w7 w8 w9 w10 mostWear keys boxes liveKeys liveBoxes parents makes wears keysOfBoxes number heldKeys heldWhats closers closerMakes stands) s.heap.size = A at hD ⊢
  have hA : ∀ q : Nat, s.heap.size ≤ q → A q := fun q h => by rw [← hAe]; exact Or.inr h
  have hS : va_S A s.heap s.heap [] := va_S.rf
  have hl := lv_entry ([.ref h0, .int x1, .int x2]) (n := 3) (Nat.le_of_ble_eq_true rfl)
  rw [lg_entry_eq]
  generalize (lg_sl ([.ref h0, .int x1, .int x2]) ++ List.replicate (3 - (lg_sl ([.ref h0, .int x1, .int x2])).length) Slot.unset).toArray = ls at hl ⊢
  have hl : lv_has ls 3 [(0, .ref h0), (1, .int x1), (2, .int x2)] := hl
  unfold fX1_copyOut at h
  refine lv_aload_n hx hb dX1_copyOut_0 rfl (lv_at hl 0 rfl) ?_
  refine va_get (D := (dC, dI)) (ci := 1) (v := .ref w0) (C := RX1) (T := TX1) (N := 2) hx hb hts (fun w h9 => gb_mem (lay_X1 w h9)) hown hK.1 hP 0 rfl rfl 1 (by decide) (hts _ (gb_mem fl_X1_21)) (fun _ h9 => h9) rfl dX1_copyOut_1 ?_
  refine lv_iload_n hx hb dX1_copyOut_4 rfl (lv_at hl 1 rfl) ?_
  refine fr_ir (M := (wrapsW cyI w0 w1 w2 w3 w4 w5 w6 w7 w8 w9 w10 number heldKeys heldWhats closers closerMakes stands)) (va_runV (As := [.int x1]) (rest := []) ⟨hx, hb, hml, hown, hts⟩ (mX6_isOne l dC dI cyI cyO cyL w0 w1 w2 w3 w4 w5 w6 w7 w8 w9 w10 number heldKeys heldWhats closers closerMakes stands x1 _ (fX6_isOne number x1) rfl) (cwV 1 hts (gV ml_X1_59 im_X6_isOne se_X6_isOne in_X6 co_X6_isOne) rfl rfl rfl (by decide +kernel) ⟨Nat.le_of_ble_eq_true rfl, Nat.le_of_ble_eq_true rfl⟩) (cP_V hK hP hD [10, 11, 12, 13, 14, 15, 16, 17, 18, 19, 20] rfl rfl 10 rfl rfl) rfl rfl hl.1 rfl (lv_room (Nat.le_of_ble_eq_true rfl)) dX1_copyOut_5 ⟨Nat.zero_le _, Nat.zero_le _⟩) hP hD hS hA [10, 11, 12, 13, 14, 15, 16, 17, 18, 19, 20] rfl (fun H locs hP hS => ?_)
  refine lv_if_ne (tgt := 13) hx hb dX1_copyOut_8 (by decide) (fun c1 => ?_) (fun c1 => ?_)
  · have h := (if_neg c1).symm.trans h
    refine lv_iload_n hx hb dX1_copyOut_13 rfl (lv_at hl 2 rfl) ?_
    refine lv_if_lt (tgt := 22) hx hb dX1_copyOut_14 (by decide) (fun c2 => ?_) (fun c2 => ?_)
    · have h := (if_pos c2).symm.trans h
      refine lv_bipush (v := (-2)) hx hb dX1_copyOut_22 (by decide) ?_
      obtain rfl := Option.some.inj h
      exact e_i hx hb hr hlocks hP hS dX1_copyOut_24
    · have h := (if_neg c2).symm.trans h
      refine lv_iload_n hx hb dX1_copyOut_17 rfl (lv_at hl 2 rfl) ?_
      refine lv_iconst (v := 3) hx hb dX1_copyOut_18 (by decide) ?_
      refine lv_icmp_lt (tgt := 25) hx hb dX1_copyOut_19 (by decide) (fun c3 => ?_) (fun c3 => ?_)
      · have h := (if_pos c3).symm.trans h
        refine lv_aload_n hx hb dX1_copyOut_25 rfl (lv_at hl 0 rfl) ?_
        refine va_get (D := (dC, dI)) (ci := 1) (v := .ref w0) (C := RX1) (T := TX1) (N := 2) hx hb hts (fun w h9 => gb_mem (lay_X1 w h9)) hown hK.1 hP 0 rfl rfl 1 (by decide) (hts _ (gb_mem fl_X1_21)) (fun _ h9 => h9) rfl dX1_copyOut_26 ?_
        refine lv_iload_n hx hb dX1_copyOut_29 rfl (lv_at hl 1 rfl) ?_
        refine lv_bipush (v := 8) hx hb dX1_copyOut_30 (by decide) ?_
        refine fr_ir (M := (wrapsW cyI w0 w1 w2 w3 w4 w5 w6 w7 w8 w9 w10 number heldKeys heldWhats closers closerMakes stands)) (va_runV (As := [.int x1, .int 8]) (rest := []) ⟨hx, hb, hml, hown, hts⟩ (mX6_standsIn l dC dI cyI cyO cyL w0 w1 w2 w3 w4 w5 w6 w7 w8 w9 w10 number heldKeys heldWhats closers closerMakes stands x1 8 _ (fX6_standsIn stands x1 8) rfl) (cwV 2 hts (gV ml_X1_62 im_X6_standsIn se_X6_standsIn in_X6 co_X6_standsIn) rfl rfl rfl (by decide +kernel) ⟨Nat.le_of_ble_eq_true rfl, Nat.le_of_ble_eq_true rfl⟩) (cP_V hK hP hD [10, 11, 12, 13, 14, 15, 16, 17, 18, 19, 20] rfl rfl 10 rfl rfl) rfl rfl hl.1 rfl (lv_room (Nat.le_of_ble_eq_true rfl)) dX1_copyOut_32 ⟨Nat.zero_le _, Nat.zero_le _⟩) hP hD hS hA [10, 11, 12, 13, 14, 15, 16, 17, 18, 19, 20] rfl (fun H locs hP hS => ?_)
        refine lv_if_eq (tgt := 53) hx hb dX1_copyOut_35 (by decide) (fun c4 => ?_) (fun c4 => ?_)
        · have h := (if_pos c4).symm.trans h
          refine lv_bipush (v := (-5)) hx hb dX1_copyOut_53 (by decide) ?_
          obtain rfl := Option.some.inj h
          exact e_i hx hb hr hlocks hP hS dX1_copyOut_55
        · have h := (if_neg c4).symm.trans h
          refine lv_aload_n hx hb dX1_copyOut_38 rfl (lv_at hl 0 rfl) ?_
          refine va_get (D := (dC, dI)) (ci := 1) (v := .ref w0) (C := RX1) (T := TX1) (N := 2) hx hb hts (fun w h9 => gb_mem (lay_X1 w h9)) hown hK.1 hP 0 rfl rfl 1 (by decide) (hts _ (gb_mem fl_X1_21)) (fun _ h9 => h9) rfl dX1_copyOut_39 ?_
          refine lv_iload_n hx hb dX1_copyOut_42 rfl (lv_at hl 1 rfl) ?_
          refine lv_iload_n hx hb dX1_copyOut_43 rfl (lv_at hl 2 rfl) ?_
          refine fr_ir (M := ([] : va_W)) (va_runSN (host := "HangingKeys") (As := [.int x2]) (rest := [.int x1, .ref w0]) ⟨hx, hb, hml, hown, hts⟩ (mX7_setOf l dC dI cyI cyO cyL x2 _ (fX7_setOf x2) rfl) ⟨va_cnB 1 hts (gW co_X7_setOf) rfl rfl rfl (hK.2 _ nl_X1_66) (hts _ (gb_mem in_X7)) (by decide +kernel) ⟨Nat.le_of_ble_eq_true rfl, Nat.le_of_ble_eq_true rfl⟩, hts _ (gb_mem st_X7_setOf), trivial⟩ (cP_S hK hP hD [] rfl rfl) rfl rfl hl.1 rfl (lv_room (Nat.le_of_ble_eq_true rfl)) dX1_copyOut_44 ⟨Nat.zero_le _, Nat.zero_le _⟩) hP hD hS hA [] rfl (fun H locs hP hS => ?_)
          refine fr_ir (M := (wrapsW cyI w0 w1 w2 w3 w4 w5 w6 w7 w8 w9 w10 number heldKeys heldWhats closers closerMakes stands)) (va_runV (As := [.int x1, .int (fX7_setOf x2)]) (rest := []) ⟨hx, hb, hml, hown, hts⟩ (mX6_standsIn l dC dI cyI cyO cyL w0 w1 w2 w3 w4 w5 w6 w7 w8 w9 w10 number heldKeys heldWhats closers closerMakes stands x1 (fX7_setOf x2) _ (fX6_standsIn stands x1 (fX7_setOf x2)) rfl) (cwV 2 hts (gV ml_X1_62 im_X6_standsIn se_X6_standsIn in_X6 co_X6_standsIn) rfl rfl rfl (by decide +kernel) ⟨Nat.le_of_ble_eq_true rfl, Nat.le_of_ble_eq_true rfl⟩) (cP_V hK hP hD [10, 11, 12, 13, 14, 15, 16, 17, 18, 19, 20] rfl rfl 10 rfl rfl) rfl rfl hl.1 rfl (lv_room (Nat.le_of_ble_eq_true rfl)) dX1_copyOut_47 ⟨Nat.zero_le _, Nat.zero_le _⟩) hP hD hS hA [10, 11, 12, 13, 14, 15, 16, 17, 18, 19, 20] rfl (fun H locs hP hS => ?_)
          refine lv_if_eq (tgt := 56) hx hb dX1_copyOut_50 (by decide) (fun c5 => ?_) (fun c5 => ?_)
          · have h := (if_pos c5).symm.trans h
            refine lv_aload_n hx hb dX1_copyOut_56 rfl (lv_at hl 0 rfl) ?_
            refine va_get (D := (dC, dI)) (ci := 1) (v := .ref w0) (C := RX1) (T := TX1) (N := 2) hx hb hts (fun w h9 => gb_mem (lay_X1 w h9)) hown hK.1 hP 0 rfl rfl 1 (by decide) (hts _ (gb_mem fl_X1_21)) (fun _ h9 => h9) rfl dX1_copyOut_57 ?_
            refine lv_iload_n hx hb dX1_copyOut_60 rfl (lv_at hl 1 rfl) ?_
            refine lv_iload_n hx hb dX1_copyOut_61 rfl (lv_at hl 2 rfl) ?_
            refine fr_v (M := (wrapsW cyI w0 w1 w2 w3 w4 w5 w6 w7 w8 w9 w10 number heldKeys heldWhats closers closerMakes stands)) (M' := (wrapsW cyI w0 w1 w2 w3 w4 w5 w6 w7 w8 w9 w10 number heldKeys heldWhats closers closerMakes (fX6_standAlsoIn stands x1 x2))) (L' := (houseW cyI h0 t0 t1 t2 t3 t4 t5 t6 t7 t8 w0 w1 w2 w3 w4 w5 w6 w7 w8 w9 w10 mostWear keys boxes liveKeys liveBoxes parents makes wears keysOfBoxes number heldKeys heldWhats closers closerMakes (fX6_standAlsoIn stands x1 x2))) (va_runV (As := [.int x1, .int x2]) (rest := []) ⟨hx, hb, hml, hown, hts⟩ (mX6_standAlsoIn l dC dI cyI cyO cyL w0 w1 w2 w3 w4 w5 w6 w7 w8 w9 w10 number heldKeys heldWhats closers closerMakes stands x1 x2 _ (fX6_standAlsoIn stands x1 x2) rfl) (cwV 2 hts (gV ml_X1_69 im_X6_standAlsoIn se_X6_standAlsoIn in_X6 co_X6_standAlsoIn) rfl rfl rfl (by decide +kernel) ⟨Nat.le_of_ble_eq_true rfl, Nat.le_of_ble_eq_true rfl⟩) (cP_V hK hP hD [10, 11, 12, 13, 14, 15, 16, 17, 18, 19, 20] rfl rfl 10 rfl rfl) rfl rfl hl.1 rfl (lv_room (Nat.le_of_ble_eq_true rfl)) dX1_copyOut_62 ⟨Nat.zero_le _, Nat.zero_le _⟩) hP hD hS hA [10, 11, 12, 13, 14, 15, 16, 17, 18, 19, 20] rfl [(false, 0), (false, 1), (false, 2), (false, 3), (false, 4), (false, 5), (false, 6), (false, 7), (false, 8), (false, 9), (true, 0), (true, 1), (true, 2), (true, 3), (true, 4), (true, 5), (true, 6), (true, 7), (true, 8), (true, 9), (true, 10)] rfl rfl rfl (fun H locs hP hD hS => ?_)
            refine lv_aload_n hx hb dX1_copyOut_65 rfl (lv_at hl 0 rfl) ?_
            refine va_get (D := (dC, dI)) (ci := 1) (v := .ref w0) (C := RX1) (T := TX1) (N := 2) hx hb hts (fun w h9 => gb_mem (lay_X1 w h9)) hown hK.1 hP 0 rfl rfl 1 (by decide) (hts _ (gb_mem fl_X1_21)) (fun _ h9 => h9) rfl dX1_copyOut_66 ?_
            refine lv_iload_n hx hb dX1_copyOut_69 rfl (lv_at hl 2 rfl) ?_
            refine fr_ir (M := ([] : va_W)) (va_runSN (host := "HangingKeys") (As := [.int x2]) (rest := [.ref w0]) ⟨hx, hb, hml, hown, hts⟩ (mX7_setOf l dC dI cyI cyO cyL x2 _ (fX7_setOf x2) rfl) ⟨va_cnB 1 hts (gW co_X7_setOf) rfl rfl rfl (hK.2 _ nl_X1_66) (hts _ (gb_mem in_X7)) (by decide +kernel) ⟨Nat.le_of_ble_eq_true rfl, Nat.le_of_ble_eq_true rfl⟩, hts _ (gb_mem st_X7_setOf), trivial⟩ (cP_S hK hP hD [] rfl rfl) rfl rfl hl.1 rfl (lv_room (Nat.le_of_ble_eq_true rfl)) dX1_copyOut_70 ⟨Nat.zero_le _, Nat.zero_le _⟩) hP hD hS hA [] rfl (fun H locs hP hS => ?_)
            obtain ⟨q6, e7, h⟩ := ob h
            refine fr_ir (M := (wrapsW cyI w0 w1 w2 w3 w4 w5 w6 w7 w8 w9 w10 number heldKeys heldWhats closers closerMakes (fX6_standAlsoIn stands x1 x2))) (va_runV (As := [.int (fX7_setOf x2)]) (rest := []) ⟨hx, hb, hml, hown, hts⟩ (mX6_standingIn l dC dI cyI cyO cyL w0 w1 w2 w3 w4 w5 w6 w7 w8 w9 w10 number heldKeys heldWhats closers closerMakes (fX6_standAlsoIn stands x1 x2) (fX7_setOf x2) _ q6 e7) (cwV 1 hts (gV ml_X1_73 im_X6_standingIn se_X6_standingIn in_X6 co_X6_standingIn) rfl rfl rfl (by decide +kernel) ⟨Nat.le_of_ble_eq_true rfl, Nat.le_of_ble_eq_true rfl⟩) (cP_V hK hP hD [10, 11, 12, 13, 14, 15, 16, 17, 18, 19, 20] rfl rfl 10 rfl rfl) rfl rfl hl.1 rfl (lv_room (Nat.le_of_ble_eq_true rfl)) dX1_copyOut_73 ⟨Nat.zero_le _, Nat.zero_le _⟩) hP hD hS hA [10, 11, 12, 13, 14, 15, 16, 17, 18, 19, 20] rfl (fun H locs hP hS => ?_)
            obtain rfl := Option.some.inj h
            exact e_i hx hb hr hlocks hP hS dX1_copyOut_76
          · have h := (if_neg c5).symm.trans h
            refine lv_bipush (v := (-5)) hx hb dX1_copyOut_53 (by decide) ?_
            obtain rfl := Option.some.inj h
            exact e_i hx hb hr hlocks hP hS dX1_copyOut_55
      · have h := (if_neg c3).symm.trans h
        refine lv_bipush (v := (-2)) hx hb dX1_copyOut_22 (by decide) ?_
        obtain rfl := Option.some.inj h
        exact e_i hx hb hr hlocks hP hS dX1_copyOut_24
  · have h := (if_pos c1).symm.trans h
    refine lv_iconst (v := (-1)) hx hb dX1_copyOut_11 (by decide) ?_
    obtain rfl := Option.some.inj h
    exact e_i hx hb hr hlocks hP hS dX1_copyOut_12

noncomputable def fX1_hangingWithout (keys : Int32) (boxes : Int32) (liveKeys : Int32) (liveBoxes : Int32) (parents : Nat → Int32) (keysOfBoxes : Nat → Int32) (x1 : Int32) (x2 : Int32) (x3 : Int32) : Option (Int32) :=
  ((fX5_liveKeysOn keys liveKeys parents x1).bind fun q1 => ((fX5_liveBoxesOn boxes liveBoxes keysOfBoxes x1).bind fun q3 => (some ((fJ6_bitCount_0f7a4 (q1 &&& (x2 ^^^ (-1)))) + (fJ6_bitCount_0f7a4 (q3 &&& (x3 ^^^ (-1))))))))
set_option maxHeartbeats 1000000 in
set_option maxRecDepth 100000 in
theorem mX1_hangingWithout (l : Launch) (dC : Nat → ClassId) (dI : Nat → Nat → Nat) (cyI cyO cyL : ClassId) (h0 t0 t1 t2 t3 t4 t5 t6 t7 t8 w0 w1 w2 w3 w4 w5 w6 w7 w8 w9 w10 : Nat) (mostWear : Int32) (keys : Int32) (boxes : Int32) (liveKeys : Int32) (liveBoxes : Int32) (parents : Nat → Int32) (makes : Nat → Int32) (wears : Nat → Int32) (keysOfBoxes : Nat → Int32) (number : Int32) (heldKeys : Nat → Int32) (heldWhats : Nat → Int32) (closers : Nat → Int32) (closerMakes : Nat → Int32) (stands : Nat → Int32) (x1 : Int32) (x2 : Int32) (x3 : Int32) (sz : Nat) (res : Int32) (h : fX1_hangingWithout keys boxes liveKeys liveBoxes parents keysOfBoxes x1 x2 x3 = some res) : Met l yX1_hangingWithout (wsG yX1_hangingWithout cX1_hangingWithout 4 (some .int)) ({ frames := 2, cells := 0, slots := 0, locals := 44 }) (cP dC dI cyI cyO cyL sz [.ref h0, .int x1, .int x2, .int x3] (houseW cyI h0 t0 t1 t2 t3 t4 t5 t6 t7 t8 w0 w1 w2 w3 w4 w5 w6 w7 w8 w9 w10 mostWear keys boxes liveKeys liveBoxes parents makes wears keysOfBoxes number heldKeys heldWhats closers closerMakes stands)) (cI dC dI res (houseW cyI h0 t0 t1 t2 t3 t4 t5 t6 t7 t8 w0 w1 w2 w3 w4 w5 w6 w7 w8 w9 w10 mostWear keys boxes liveKeys liveBoxes parents makes wears keysOfBoxes number heldKeys heldWhats closers closerMakes stands) (va_A (houseW cyI h0 t0 t1 t2 t3 t4 t5 t6 t7 t8 w0 w1 w2 w3 w4 w5 w6 w7 w8 w9 w10 mostWear keys boxes liveKeys liveBoxes parents makes wears keysOfBoxes number heldKeys heldWhats closers closerMakes stands) sz)) 0 0 (va_A (houseW cyI h0 t0 t1 t2 t3 t4 t5 t6 t7 t8 w0 w1 w2 w3 w4 w5 w6 w7 w8 w9 w10 mostWear keys boxes liveKeys liveBoxes parents makes wears keysOfBoxes number heldKeys heldWhats closers closerMakes stands) sz) := by
  refine Met.ofW (cc := cX1_hangingWithout) (maxL := 4) (ret := (some .int)) (by decide) rfl ?_
  intro p e s m args below meth c s₁ B hml hv
  obtain ⟨rfl, hsz, hP, hK, hD0⟩ := hv
  have hx := B.exec
  have hb := B.bytes
  have hr := B.returns
  have hts := atoms_spec (ws := wsG yX1_hangingWithout cX1_hangingWithout 4 (some .int)) B.pre
  have hown : s.vm.findClass RX1 = some m.cls := findClass_of_methodNamed B.named
  have hlocks := B.notSynchronized
  subst hsz
  have hD := hD0.self (sz := s.heap.size)
  generalize hAe : va_A (houseW cyI h0 t0 t1 t2 t3 t4 t5 t6 t7 t8 w0 w1 w2 w3 w4 w5 w6 w7 w8 w9 w10 mostWear keys boxes liveKeys liveBoxes parents makes wears keysOfBoxes number heldKeys heldWhats closers closerMakes stands) s.heap.size = A at hD ⊢
  have hA : ∀ q : Nat, s.heap.size ≤ q → A q := fun q h => by rw [← hAe]; exact Or.inr h
  have hS : va_S A s.heap s.heap [] := va_S.rf
  have hl := lv_entry ([.ref h0, .int x1, .int x2, .int x3]) (n := 4) (Nat.le_of_ble_eq_true rfl)
  rw [lg_entry_eq]
  generalize (lg_sl ([.ref h0, .int x1, .int x2, .int x3]) ++ List.replicate (4 - (lg_sl ([.ref h0, .int x1, .int x2, .int x3])).length) Slot.unset).toArray = ls at hl ⊢
  have hl : lv_has ls 4 [(0, .ref h0), (1, .int x1), (2, .int x2), (3, .int x3)] := hl
  unfold fX1_hangingWithout at h
  refine lv_aload_n hx hb dX1_hangingWithout_0 rfl (lv_at hl 0 rfl) ?_
  refine va_get (D := (dC, dI)) (ci := 1) (v := .ref t0) (C := RX1) (T := TX1) (N := 2) hx hb hts (fun w h9 => gb_mem (lay_X1 w h9)) hown hK.1 hP 0 rfl rfl 0 (by decide) (hts _ (gb_mem fl_X1_12)) (fun _ h9 => h9) rfl dX1_hangingWithout_1 ?_
  refine lv_iload_n hx hb dX1_hangingWithout_4 rfl (lv_at hl 1 rfl) ?_
  obtain ⟨q1, e2, h⟩ := ob h
  refine fr_ir (M := (treeW cyI t0 t1 t2 t3 t4 t5 t6 t7 t8 mostWear keys boxes liveKeys liveBoxes parents makes wears keysOfBoxes)) (va_runV (As := [.int x1]) (rest := []) ⟨hx, hb, hml, hown, hts⟩ (mX5_liveKeysOn l dC dI cyI cyO cyL t0 t1 t2 t3 t4 t5 t6 t7 t8 mostWear keys boxes liveKeys liveBoxes parents makes wears keysOfBoxes x1 _ q1 e2) (cwV 1 hts (gV ml_X1_118 im_X5_liveKeysOn se_X5_liveKeysOn in_X5 co_X5_liveKeysOn) rfl rfl rfl (by decide +kernel) ⟨Nat.le_of_ble_eq_true rfl, Nat.le_of_ble_eq_true rfl⟩) (cP_V hK hP hD [1, 2, 3, 4, 5, 6, 7, 8, 9] rfl rfl 1 rfl rfl) rfl rfl hl.1 rfl (lv_room (Nat.le_of_ble_eq_true rfl)) dX1_hangingWithout_5 ⟨Nat.zero_le _, Nat.zero_le _⟩) hP hD hS hA [1, 2, 3, 4, 5, 6, 7, 8, 9] rfl (fun H locs hP hS => ?_)
  refine lv_iload_n hx hb dX1_hangingWithout_8 rfl (lv_at hl 2 rfl) ?_
  refine lv_iconst (v := (-1)) hx hb dX1_hangingWithout_9 (by decide) ?_
  refine lv_ixor hx hb dX1_hangingWithout_10 ?_
  refine lv_iand hx hb dX1_hangingWithout_11 ?_
  refine fr_ir (M := ([] : va_W)) (va_runS (As := [.int (q1 &&& (x2 ^^^ (-1)))]) (rest := []) ⟨hx, hb, hml, hown, hts⟩ (mJ6_bitCount_0f7a4 l dC dI cyI cyO cyL (q1 &&& (x2 ^^^ (-1))) _ (fJ6_bitCount_0f7a4 (q1 &&& (x2 ^^^ (-1)))) rfl) (va_cwS 1 hts (gS ml_X1_121 st_J6_bitCount_0f7a4 in_J6 co_J6_bitCount_0f7a4) rfl rfl rfl (by decide +kernel) ⟨Nat.le_of_ble_eq_true rfl, Nat.le_of_ble_eq_true rfl⟩) (cP_S hK hP hD [] rfl rfl) rfl rfl hl.1 rfl (lv_room (Nat.le_of_ble_eq_true rfl)) dX1_hangingWithout_12 ⟨Nat.zero_le _, Nat.zero_le _⟩) hP hD hS hA [] rfl (fun H locs hP hS => ?_)
  refine lv_aload_n hx hb dX1_hangingWithout_15 rfl (lv_at hl 0 rfl) ?_
  refine va_get (D := (dC, dI)) (ci := 1) (v := .ref t0) (C := RX1) (T := TX1) (N := 2) hx hb hts (fun w h9 => gb_mem (lay_X1 w h9)) hown hK.1 hP 0 rfl rfl 0 (by decide) (hts _ (gb_mem fl_X1_12)) (fun _ h9 => h9) rfl dX1_hangingWithout_16 ?_
  refine lv_iload_n hx hb dX1_hangingWithout_19 rfl (lv_at hl 1 rfl) ?_
  obtain ⟨q3, e4, h⟩ := ob h
  refine fr_ir (M := (treeW cyI t0 t1 t2 t3 t4 t5 t6 t7 t8 mostWear keys boxes liveKeys liveBoxes parents makes wears keysOfBoxes)) (va_runV (As := [.int x1]) (rest := [.int (fJ6_bitCount_0f7a4 (q1 &&& (x2 ^^^ (-1))))]) ⟨hx, hb, hml, hown, hts⟩ (mX5_liveBoxesOn l dC dI cyI cyO cyL t0 t1 t2 t3 t4 t5 t6 t7 t8 mostWear keys boxes liveKeys liveBoxes parents makes wears keysOfBoxes x1 _ q3 e4) (cwV 1 hts (gV ml_X1_102 im_X5_liveBoxesOn se_X5_liveBoxesOn in_X5 co_X5_liveBoxesOn) rfl rfl rfl (by decide +kernel) ⟨Nat.le_of_ble_eq_true rfl, Nat.le_of_ble_eq_true rfl⟩) (cP_V hK hP hD [1, 2, 3, 4, 5, 6, 7, 8, 9] rfl rfl 1 rfl rfl) rfl rfl hl.1 rfl (lv_room (Nat.le_of_ble_eq_true rfl)) dX1_hangingWithout_20 ⟨Nat.zero_le _, Nat.zero_le _⟩) hP hD hS hA [1, 2, 3, 4, 5, 6, 7, 8, 9] rfl (fun H locs hP hS => ?_)
  refine lv_iload_n hx hb dX1_hangingWithout_23 rfl (lv_at hl 3 rfl) ?_
  refine lv_iconst (v := (-1)) hx hb dX1_hangingWithout_24 (by decide) ?_
  refine lv_ixor hx hb dX1_hangingWithout_25 ?_
  refine lv_iand hx hb dX1_hangingWithout_26 ?_
  refine fr_ir (M := ([] : va_W)) (va_runS (As := [.int (q3 &&& (x3 ^^^ (-1)))]) (rest := [.int (fJ6_bitCount_0f7a4 (q1 &&& (x2 ^^^ (-1))))]) ⟨hx, hb, hml, hown, hts⟩ (mJ6_bitCount_0f7a4 l dC dI cyI cyO cyL (q3 &&& (x3 ^^^ (-1))) _ (fJ6_bitCount_0f7a4 (q3 &&& (x3 ^^^ (-1)))) rfl) (va_cwS 1 hts (gS ml_X1_121 st_J6_bitCount_0f7a4 in_J6 co_J6_bitCount_0f7a4) rfl rfl rfl (by decide +kernel) ⟨Nat.le_of_ble_eq_true rfl, Nat.le_of_ble_eq_true rfl⟩) (cP_S hK hP hD [] rfl rfl) rfl rfl hl.1 rfl (lv_room (Nat.le_of_ble_eq_true rfl)) dX1_hangingWithout_27 ⟨Nat.zero_le _, Nat.zero_le _⟩) hP hD hS hA [] rfl (fun H locs hP hS => ?_)
  refine lv_iadd hx hb dX1_hangingWithout_30 ?_
  obtain rfl := Option.some.inj h
  exact e_i hx hb hr hlocks hP hS dX1_hangingWithout_31
noncomputable def fX1_startNextMakes_b2 : Nat → (Nat → Int32) → (Nat → Int32) → Int32 → (Nat → Int32) → (Nat → Int32) → (Nat → Int32) → (Nat → Int32) → (Nat → Int32) → Int32 → Int32 → Option ((Nat → Int32) × (Nat → Int32) × (Nat → Int32))
  | 0, _, _, _, _, _, _, _, _, _, _ => none
  | fuel + 1, makes, wears, number, heldKeys, heldWhats, closers, closerMakes, stands, y1, y2 =>
  (if 20 ≤ y2 then (some (makes, wears, stands)) else (if (fX7_has y1 y2) = 0 then fX1_startNextMakes_b2 fuel makes wears number heldKeys heldWhats closers closerMakes stands y1 (y2 + 1) else ((fX5_startNextMake makes wears y2).bind fun q3 => ((fX6_burnOlderThan number heldKeys heldWhats closers closerMakes stands y2 (fX5_makeOf q3.1 y2)).bind fun q5 => fX1_startNextMakes_b2 fuel q3.1 q3.2 number heldKeys heldWhats closers closerMakes q5 y1 (y2 + 1)))))

noncomputable def fX1_startNextMakes (makes : Nat → Int32) (wears : Nat → Int32) (number : Int32) (heldKeys : Nat → Int32) (heldWhats : Nat → Int32) (closers : Nat → Int32) (closerMakes : Nat → Int32) (stands : Nat → Int32) (x1 : Int32) : Option ((Nat → Int32) × (Nat → Int32) × (Nat → Int32)) :=
  fX1_startNextMakes_b2 6000 makes wears number heldKeys heldWhats closers closerMakes stands x1 0
set_option maxHeartbeats 1000000 in
set_option maxRecDepth 100000 in
theorem mX1_startNextMakes (l : Launch) (dC : Nat → ClassId) (dI : Nat → Nat → Nat) (cyI cyO cyL : ClassId) (h0 t0 t1 t2 t3 t4 t5 t6 t7 t8 w0 w1 w2 w3 w4 w5 w6 w7 w8 w9 w10 : Nat) (mostWear : Int32) (keys : Int32) (boxes : Int32) (liveKeys : Int32) (liveBoxes : Int32) (parents : Nat → Int32) (makes : Nat → Int32) (wears : Nat → Int32) (keysOfBoxes : Nat → Int32) (number : Int32) (heldKeys : Nat → Int32) (heldWhats : Nat → Int32) (closers : Nat → Int32) (closerMakes : Nat → Int32) (stands : Nat → Int32) (x1 : Int32) (sz : Nat) (res : (Nat → Int32) × (Nat → Int32) × (Nat → Int32)) (h : fX1_startNextMakes makes wears number heldKeys heldWhats closers closerMakes stands x1 = some res) : Met l yX1_startNextMakes (wsG yX1_startNextMakes cX1_startNextMakes 3 none) ({ frames := 3, cells := 0, slots := 0, locals := 68 }) (cP dC dI cyI cyO cyL sz [.ref h0, .int x1] (houseW cyI h0 t0 t1 t2 t3 t4 t5 t6 t7 t8 w0 w1 w2 w3 w4 w5 w6 w7 w8 w9 w10 mostWear keys boxes liveKeys liveBoxes parents makes wears keysOfBoxes number heldKeys heldWhats closers closerMakes stands)) (cV dC dI (houseW cyI h0 t0 t1 t2 t3 t4 t5 t6 t7 t8 w0 w1 w2 w3 w4 w5 w6 w7 w8 w9 w10 mostWear keys boxes liveKeys liveBoxes parents res.1 res.2.1 keysOfBoxes number heldKeys heldWhats closers closerMakes res.2.2) (va_A (houseW cyI h0 t0 t1 t2 t3 t4 t5 t6 t7 t8 w0 w1 w2 w3 w4 w5 w6 w7 w8 w9 w10 mostWear keys boxes liveKeys liveBoxes parents makes wears keysOfBoxes number heldKeys heldWhats closers closerMakes stands) sz)) 0 0 (va_A (houseW cyI h0 t0 t1 t2 t3 t4 t5 t6 t7 t8 w0 w1 w2 w3 w4 w5 w6 w7 w8 w9 w10 mostWear keys boxes liveKeys liveBoxes parents makes wears keysOfBoxes number heldKeys heldWhats closers closerMakes stands) sz) := by
  refine Met.ofW (cc := cX1_startNextMakes) (maxL := 3) (ret := none) (by decide) rfl ?_
  intro p e s m args below meth c s₁ B hml hv
  obtain ⟨rfl, hsz, hP, hK, hD0⟩ := hv
  have hx := B.exec
  have hb := B.bytes
  have hr := B.returns
  have hts := atoms_spec (ws := wsG yX1_startNextMakes cX1_startNextMakes 3 none) B.pre
  have hown : s.vm.findClass RX1 = some m.cls := findClass_of_methodNamed B.named
  have hlocks := B.notSynchronized
  subst hsz
  have hD := hD0.self (sz := s.heap.size)
  generalize hAe : va_A (houseW cyI h0 t0 t1 t2 t3 t4 t5 t6 t7 t8 w0 w1 w2 w3 w4 w5 w6 w7 w8 w9 w10 mostWear keys boxes liveKeys liveBoxes parents makes wears keysOfBoxes number heldKeys heldWhats closers closerMakes stands) s.heap.size = A at hD ⊢
  have hA : ∀ q : Nat, s.heap.size ≤ q → A q := fun q h => by rw [← hAe]; exact Or.inr h
  have hS : va_S A s.heap s.heap [] := va_S.rf
  have kB2 : ∀ (fuel : Nat) (makes : Nat → Int32) (wears : Nat → Int32) (number : Int32) (heldKeys : Nat → Int32) (heldWhats : Nat → Int32) (closers : Nat → Int32) (closerMakes : Nat → Int32) (stands : Nat → Int32) (y1 : Int32) (y2 : Int32), fX1_startNextMakes_b2 fuel makes wears number heldKeys heldWhats closers closerMakes stands y1 y2 = some res → ∀ (H : Heap) (locs : List Loc), va_P (dC, dI) vwCl (houseW cyI h0 t0 t1 t2 t3 t4 t5 t6 t7 t8 w0 w1 w2 w3 w4 w5 w6 w7 w8 w9 w10 mostWear keys boxes liveKeys liveBoxes parents makes wears keysOfBoxes number heldKeys heldWhats closers closerMakes stands) H → va_D A (houseW cyI h0 t0 t1 t2 t3 t4 t5 t6 t7 t8 w0 w1 w2 w3 w4 w5 w6 w7 w8 w9 w10 mostWear keys boxes liveKeys liveBoxes parents makes wears keysOfBoxes number heldKeys heldWhats closers closerMakes stands) → va_S A s.heap H locs → ∀ ls : Array Slot, lv_has ls 3 [(0, .ref h0), (1, .int y1), (2, .int y2)] → W p l e (headSpec (wsG yX1_startNextMakes cX1_startNextMakes 3 none) ({ frames := 3, cells := 0, slots := 0, locals := 68 })).room s m (([.ref h0, .int x1] : List Value).toArray) below meth c H locs 0 0 (MQ below (cV dC dI (houseW cyI h0 t0 t1 t2 t3 t4 t5 t6 t7 t8 w0 w1 w2 w3 w4 w5 w6 w7 w8 w9 w10 mostWear keys boxes liveKeys liveBoxes parents res.1 res.2.1 keysOfBoxes number heldKeys heldWhats closers closerMakes res.2.2) A) ([.ref h0, .int x1] : List Value).toArray s 0 0 A) (F0 m 2 ls []) := by
    intro fuel
    induction fuel with
    | zero => intro makes wears number heldKeys heldWhats closers closerMakes stands y1 y2 h; rw [fX1_startNextMakes_b2] at h; cases h
    | succ fuel ih =>
      intro makes wears number heldKeys heldWhats closers closerMakes stands y1 y2 h H locs hP hD hS ls hl
      rw [fX1_startNextMakes_b2] at h
      refine lv_iload_n hx hb dX1_startNextMakes_2 rfl (lv_at hl 2 rfl) ?_
      refine lv_bipush (v := 20) hx hb dX1_startNextMakes_3 (by decide) ?_
      refine lv_icmp_ge (tgt := 46) hx hb dX1_startNextMakes_5 (by decide) (fun c1 => ?_) (fun c1 => ?_)
      · have h := (if_pos c1).symm.trans h
        obtain rfl := Option.some.inj h
        exact e_v hx hb hr hlocks hP hS dX1_startNextMakes_46
      · have h := (if_neg c1).symm.trans h
        refine lv_iload_n hx hb dX1_startNextMakes_8 rfl (lv_at hl 1 rfl) ?_
        refine lv_iload_n hx hb dX1_startNextMakes_9 rfl (lv_at hl 2 rfl) ?_
        refine fr_ir (M := ([] : va_W)) (va_runSN (host := "HangingKeys") (As := [.int y1, .int y2]) (rest := []) ⟨hx, hb, hml, hown, hts⟩ (mX7_has l dC dI cyI cyO cyL y1 y2 _ (fX7_has y1 y2) rfl) ⟨va_cnB 2 hts (gW co_X7_has) rfl rfl rfl (hK.2 _ nl_X1_115) (hts _ (gb_mem in_X7)) (by decide +kernel) ⟨Nat.le_of_ble_eq_true rfl, Nat.le_of_ble_eq_true rfl⟩, hts _ (gb_mem st_X7_has), trivial⟩ (cP_S hK hP hD [] rfl rfl) rfl rfl hl.1 rfl (lv_room (Nat.le_of_ble_eq_true rfl)) dX1_startNextMakes_10 ⟨Nat.zero_le _, Nat.zero_le _⟩) hP hD hS hA [] rfl (fun H locs hP hS => ?_)
        refine lv_if_eq (tgt := 40) hx hb dX1_startNextMakes_13 (by decide) (fun c2 => ?_) (fun c2 => ?_)
        · have h := (if_pos c2).symm.trans h
          refine lv_iinc (v := (y2 + 1)) (lv' := [(2, .int (y2 + 1)), (0, .ref h0), (1, .int y1)]) hx hb dX1_startNextMakes_40 hl (k := 2) rfl rfl (by decide) rfl (fun ls hl => ?_)
          refine lv_goto (tgt := 2) hx hb dX1_startNextMakes_43 (by decide) ?_
          exact ih makes wears number heldKeys heldWhats closers closerMakes stands y1 (y2 + 1) h _ _ hP hD hS ls (lv_sub hl [1, 2, 0] rfl)
        · have h := (if_neg c2).symm.trans h
          refine lv_aload_n hx hb dX1_startNextMakes_16 rfl (lv_at hl 0 rfl) ?_
          refine va_get (D := (dC, dI)) (ci := 1) (v := .ref t0) (C := RX1) (T := TX1) (N := 2) hx hb hts (fun w h9 => gb_mem (lay_X1 w h9)) hown hK.1 hP 0 rfl rfl 0 (by decide) (hts _ (gb_mem fl_X1_12)) (fun _ h9 => h9) rfl dX1_startNextMakes_17 ?_
          refine lv_iload_n hx hb dX1_startNextMakes_20 rfl (lv_at hl 2 rfl) ?_
          obtain ⟨q3, e4, h⟩ := ob h
          refine fr_v (M := (treeW cyI t0 t1 t2 t3 t4 t5 t6 t7 t8 mostWear keys boxes liveKeys liveBoxes parents makes wears keysOfBoxes)) (M' := (treeW cyI t0 t1 t2 t3 t4 t5 t6 t7 t8 mostWear keys boxes liveKeys liveBoxes parents q3.1 q3.2 keysOfBoxes)) (L' := (houseW cyI h0 t0 t1 t2 t3 t4 t5 t6 t7 t8 w0 w1 w2 w3 w4 w5 w6 w7 w8 w9 w10 mostWear keys boxes liveKeys liveBoxes parents q3.1 q3.2 keysOfBoxes number heldKeys heldWhats closers closerMakes stands)) (va_runV (As := [.int y2]) (rest := []) ⟨hx, hb, hml, hown, hts⟩ (mX5_startNextMake l dC dI cyI cyO cyL t0 t1 t2 t3 t4 t5 t6 t7 t8 mostWear keys boxes liveKeys liveBoxes parents makes wears keysOfBoxes y2 _ q3 e4) (cwV 1 hts (gV ml_X1_126 im_X5_startNextMake se_X5_startNextMake in_X5 co_X5_startNextMake) rfl rfl rfl (by decide +kernel) ⟨Nat.le_of_ble_eq_true rfl, Nat.le_of_ble_eq_true rfl⟩) (cP_V hK hP hD [1, 2, 3, 4, 5, 6, 7, 8, 9] rfl rfl 1 rfl rfl) rfl rfl hl.1 rfl (lv_room (Nat.le_of_ble_eq_true rfl)) dX1_startNextMakes_21 ⟨Nat.zero_le _, Nat.zero_le _⟩) hP hD hS hA [1, 2, 3, 4, 5, 6, 7, 8, 9] rfl [(false, 0), (true, 0), (true, 1), (true, 2), (true, 3), (true, 4), (true, 5), (true, 6), (true, 7), (true, 8), (false, 10), (false, 11), (false, 12), (false, 13), (false, 14), (false, 15), (false, 16), (false, 17), (false, 18), (false, 19), (false, 20)] rfl rfl rfl (fun H locs hP hD hS => ?_)
          refine lv_aload_n hx hb dX1_startNextMakes_24 rfl (lv_at hl 0 rfl) ?_
          refine va_get (D := (dC, dI)) (ci := 1) (v := .ref w0) (C := RX1) (T := TX1) (N := 2) hx hb hts (fun w h9 => gb_mem (lay_X1 w h9)) hown hK.1 hP 0 rfl rfl 1 (by decide) (hts _ (gb_mem fl_X1_21)) (fun _ h9 => h9) rfl dX1_startNextMakes_25 ?_
          refine lv_iload_n hx hb dX1_startNextMakes_28 rfl (lv_at hl 2 rfl) ?_
          refine lv_aload_n hx hb dX1_startNextMakes_29 rfl (lv_at hl 0 rfl) ?_
          refine va_get (D := (dC, dI)) (ci := 1) (v := .ref t0) (C := RX1) (T := TX1) (N := 2) hx hb hts (fun w h9 => gb_mem (lay_X1 w h9)) hown hK.1 hP 0 rfl rfl 0 (by decide) (hts _ (gb_mem fl_X1_12)) (fun _ h9 => h9) rfl dX1_startNextMakes_30 ?_
          refine lv_iload_n hx hb dX1_startNextMakes_33 rfl (lv_at hl 2 rfl) ?_
          refine fr_ir (M := (treeW cyI t0 t1 t2 t3 t4 t5 t6 t7 t8 mostWear keys boxes liveKeys liveBoxes parents q3.1 q3.2 keysOfBoxes)) (va_runV (As := [.int y2]) (rest := [.int y2, .ref w0]) ⟨hx, hb, hml, hown, hts⟩ (mX5_makeOf l dC dI cyI cyO cyL t0 t1 t2 t3 t4 t5 t6 t7 t8 mostWear keys boxes liveKeys liveBoxes parents q3.1 q3.2 keysOfBoxes y2 _ (fX5_makeOf q3.1 y2) rfl) (cwV 1 hts (gV ml_X1_129 im_X5_makeOf se_X5_makeOf in_X5 co_X5_makeOf) rfl rfl rfl (by decide +kernel) ⟨Nat.le_of_ble_eq_true rfl, Nat.le_of_ble_eq_true rfl⟩) (cP_V hK hP hD [1, 2, 3, 4, 5, 6, 7, 8, 9] rfl rfl 1 rfl rfl) rfl rfl hl.1 rfl (lv_room (Nat.le_of_ble_eq_true rfl)) dX1_startNextMakes_34 ⟨Nat.zero_le _, Nat.zero_le _⟩) hP hD hS hA [1, 2, 3, 4, 5, 6, 7, 8, 9] rfl (fun H locs hP hS => ?_)
          obtain ⟨q5, e6, h⟩ := ob h
          refine fr_v (M := (wrapsW cyI w0 w1 w2 w3 w4 w5 w6 w7 w8 w9 w10 number heldKeys heldWhats closers closerMakes stands)) (M' := (wrapsW cyI w0 w1 w2 w3 w4 w5 w6 w7 w8 w9 w10 number heldKeys heldWhats closers closerMakes q5)) (L' := (houseW cyI h0 t0 t1 t2 t3 t4 t5 t6 t7 t8 w0 w1 w2 w3 w4 w5 w6 w7 w8 w9 w10 mostWear keys boxes liveKeys liveBoxes parents q3.1 q3.2 keysOfBoxes number heldKeys heldWhats closers closerMakes q5)) (va_runV (As := [.int y2, .int (fX5_makeOf q3.1 y2)]) (rest := []) ⟨hx, hb, hml, hown, hts⟩ (mX6_burnOlderThan l dC dI cyI cyO cyL w0 w1 w2 w3 w4 w5 w6 w7 w8 w9 w10 number heldKeys heldWhats closers closerMakes stands y2 (fX5_makeOf q3.1 y2) _ q5 e6) (cwV 2 hts (gV ml_X1_132 im_X6_burnOlderThan se_X6_burnOlderThan in_X6 co_X6_burnOlderThan) rfl rfl rfl (by decide +kernel) ⟨Nat.le_of_ble_eq_true rfl, Nat.le_of_ble_eq_true rfl⟩) (cP_V hK hP hD [10, 11, 12, 13, 14, 15, 16, 17, 18, 19, 20] rfl rfl 10 rfl rfl) rfl rfl hl.1 rfl (lv_room (Nat.le_of_ble_eq_true rfl)) dX1_startNextMakes_37 ⟨Nat.zero_le _, Nat.zero_le _⟩) hP hD hS hA [10, 11, 12, 13, 14, 15, 16, 17, 18, 19, 20] rfl [(false, 0), (false, 1), (false, 2), (false, 3), (false, 4), (false, 5), (false, 6), (false, 7), (false, 8), (false, 9), (true, 0), (true, 1), (true, 2), (true, 3), (true, 4), (true, 5), (true, 6), (true, 7), (true, 8), (true, 9), (true, 10)] rfl rfl rfl (fun H locs hP hD hS => ?_)
          refine lv_iinc (v := (y2 + 1)) (lv' := [(2, .int (y2 + 1)), (0, .ref h0), (1, .int y1)]) hx hb dX1_startNextMakes_40 hl (k := 2) rfl rfl (by decide) rfl (fun ls hl => ?_)
          refine lv_goto (tgt := 2) hx hb dX1_startNextMakes_43 (by decide) ?_
          exact ih q3.1 q3.2 number heldKeys heldWhats closers closerMakes q5 y1 (y2 + 1) h _ _ hP hD hS ls (lv_sub hl [1, 2, 0] rfl)
  have hl := lv_entry ([.ref h0, .int x1]) (n := 3) (Nat.le_of_ble_eq_true rfl)
  rw [lg_entry_eq]
  generalize (lg_sl ([.ref h0, .int x1]) ++ List.replicate (3 - (lg_sl ([.ref h0, .int x1])).length) Slot.unset).toArray = ls at hl ⊢
  have hl : lv_has ls 3 [(0, .ref h0), (1, .int x1)] := hl
  unfold fX1_startNextMakes at h
  refine lv_iconst (v := 0) hx hb dX1_startNextMakes_0 (by decide) ?_
  refine lv_istore_n (lv' := [(2, .int 0), (0, .ref h0), (1, .int x1)]) hx hb dX1_startNextMakes_1 rfl hl (by decide) rfl (fun ls hl => ?_)
  exact kB2 6000 makes wears number heldKeys heldWhats closers closerMakes stands x1 0 h _ _ hP hD hS ls (lv_sub hl [1, 2, 0] rfl)
noncomputable def fX1_wrapAllOn_b58 : Nat → Int32 → Int32 → Int32 → Int32 → (Nat → Int32) → (Nat → Int32) → (Nat → Int32) → (Nat → Int32) → Int32 → (Nat → Int32) → (Nat → Int32) → (Nat → Int32) → (Nat → Int32) → (Nat → Int32) → Int32 → Int32 → Option ((Nat → Int32) × Int32 × (Nat → Int32) × (Nat → Int32) × (Nat → Int32) × (Nat → Int32) × (Nat → Int32))
  | 0, _, _, _, _, _, _, _, _, _, _, _, _, _, _, _, _ => none
  | fuel + 1, keys, boxes, liveKeys, liveBoxes, parents, makes, wears, keysOfBoxes, number, heldKeys, heldWhats, closers, closerMakes, stands, y3, y4 =>
  (if 20 ≤ y4 then (some (wears, number, heldKeys, heldWhats, closers, closerMakes, stands)) else (if (fX7_has y3 y4) = 0 then fX1_wrapAllOn_b58 fuel keys boxes liveKeys liveBoxes parents makes wears keysOfBoxes number heldKeys heldWhats closers closerMakes stands y3 (y4 + 1) else ((fX1_wrapBox makes wears keysOfBoxes number heldKeys heldWhats closers closerMakes stands y4).bind fun q3 => fX1_wrapAllOn_b58 fuel keys boxes liveKeys liveBoxes parents makes q3.1 keysOfBoxes q3.2.1 q3.2.2.1 q3.2.2.2.1 q3.2.2.2.2.1 q3.2.2.2.2.2.1 q3.2.2.2.2.2.2 y3 (y4 + 1))))

noncomputable def fX1_wrapAllOn_b27 : Nat → Int32 → Int32 → Int32 → Int32 → (Nat → Int32) → (Nat → Int32) → (Nat → Int32) → (Nat → Int32) → Int32 → (Nat → Int32) → (Nat → Int32) → (Nat → Int32) → (Nat → Int32) → (Nat → Int32) → Int32 → Int32 → Int32 → Option ((Nat → Int32) × Int32 × (Nat → Int32) × (Nat → Int32) × (Nat → Int32) × (Nat → Int32) × (Nat → Int32))
  | 0, _, _, _, _, _, _, _, _, _, _, _, _, _, _, _, _, _ => none
  | fuel + 1, keys, boxes, liveKeys, liveBoxes, parents, makes, wears, keysOfBoxes, number, heldKeys, heldWhats, closers, closerMakes, stands, y2, y3, y4 =>
  (if 20 ≤ y4 then fX1_wrapAllOn_b58 6000 keys boxes liveKeys liveBoxes parents makes wears keysOfBoxes number heldKeys heldWhats closers closerMakes stands y3 0 else (if (fX7_has y2 y4) = 0 then fX1_wrapAllOn_b27 fuel keys boxes liveKeys liveBoxes parents makes wears keysOfBoxes number heldKeys heldWhats closers closerMakes stands y2 y3 (y4 + 1) else ((fX1_wrapKey parents makes wears number heldKeys heldWhats closers closerMakes stands y4).bind fun q7 => fX1_wrapAllOn_b27 fuel keys boxes liveKeys liveBoxes parents makes q7.1 keysOfBoxes q7.2.1 q7.2.2.1 q7.2.2.2.1 q7.2.2.2.2.1 q7.2.2.2.2.2.1 q7.2.2.2.2.2.2 y2 y3 (y4 + 1))))

noncomputable def fX1_wrapAllOn (keys : Int32) (boxes : Int32) (liveKeys : Int32) (liveBoxes : Int32) (parents : Nat → Int32) (makes : Nat → Int32) (wears : Nat → Int32) (keysOfBoxes : Nat → Int32) (number : Int32) (heldKeys : Nat → Int32) (heldWhats : Nat → Int32) (closers : Nat → Int32) (closerMakes : Nat → Int32) (stands : Nat → Int32) (x1 : Int32) : Option ((Nat → Int32) × Int32 × (Nat → Int32) × (Nat → Int32) × (Nat → Int32) × (Nat → Int32) × (Nat → Int32)) :=
  ((fX5_liveKeysOn keys liveKeys parents (fX7_setOf x1)).bind fun q9 => ((fX5_liveBoxesOn boxes liveBoxes keysOfBoxes (fX7_setOf x1)).bind fun q11 => fX1_wrapAllOn_b27 6000 keys boxes liveKeys liveBoxes parents makes wears keysOfBoxes number heldKeys heldWhats closers closerMakes stands q9 q11 0))
set_option maxHeartbeats 1000000 in
set_option maxRecDepth 100000 in
theorem mX1_wrapAllOn (l : Launch) (dC : Nat → ClassId) (dI : Nat → Nat → Nat) (cyI cyO cyL : ClassId) (h0 t0 t1 t2 t3 t4 t5 t6 t7 t8 w0 w1 w2 w3 w4 w5 w6 w7 w8 w9 w10 : Nat) (mostWear : Int32) (keys : Int32) (boxes : Int32) (liveKeys : Int32) (liveBoxes : Int32) (parents : Nat → Int32) (makes : Nat → Int32) (wears : Nat → Int32) (keysOfBoxes : Nat → Int32) (number : Int32) (heldKeys : Nat → Int32) (heldWhats : Nat → Int32) (closers : Nat → Int32) (closerMakes : Nat → Int32) (stands : Nat → Int32) (x1 : Int32) (sz : Nat) (res : (Nat → Int32) × Int32 × (Nat → Int32) × (Nat → Int32) × (Nat → Int32) × (Nat → Int32) × (Nat → Int32)) (h : fX1_wrapAllOn keys boxes liveKeys liveBoxes parents makes wears keysOfBoxes number heldKeys heldWhats closers closerMakes stands x1 = some res) : Met l yX1_wrapAllOn (wsG yX1_wrapAllOn cX1_wrapAllOn 5 none) ({ frames := 3, cells := 0, slots := 0, locals := 68 }) (cP dC dI cyI cyO cyL sz [.ref h0, .int x1] (houseW cyI h0 t0 t1 t2 t3 t4 t5 t6 t7 t8 w0 w1 w2 w3 w4 w5 w6 w7 w8 w9 w10 mostWear keys boxes liveKeys liveBoxes parents makes wears keysOfBoxes number heldKeys heldWhats closers closerMakes stands)) (cV dC dI (houseW cyI h0 t0 t1 t2 t3 t4 t5 t6 t7 t8 w0 w1 w2 w3 w4 w5 w6 w7 w8 w9 w10 mostWear keys boxes liveKeys liveBoxes parents makes res.1 keysOfBoxes res.2.1 res.2.2.1 res.2.2.2.1 res.2.2.2.2.1 res.2.2.2.2.2.1 res.2.2.2.2.2.2) (va_A (houseW cyI h0 t0 t1 t2 t3 t4 t5 t6 t7 t8 w0 w1 w2 w3 w4 w5 w6 w7 w8 w9 w10 mostWear keys boxes liveKeys liveBoxes parents makes wears keysOfBoxes number heldKeys heldWhats closers closerMakes stands) sz)) 0 0 (va_A (houseW cyI h0 t0 t1 t2 t3 t4 t5 t6 t7 t8 w0 w1 w2 w3 w4 w5 w6 w7 w8 w9 w10 mostWear keys boxes liveKeys liveBoxes parents makes wears keysOfBoxes number heldKeys heldWhats closers closerMakes stands) sz) := by
  refine Met.ofW (cc := cX1_wrapAllOn) (maxL := 5) (ret := none) (by decide) rfl ?_
  intro p e s m args below meth c s₁ B hml hv
  obtain ⟨rfl, hsz, hP, hK, hD0⟩ := hv
  have hx := B.exec
  have hb := B.bytes
  have hr := B.returns
  have hts := atoms_spec (ws := wsG yX1_wrapAllOn cX1_wrapAllOn 5 none) B.pre
  have hown : s.vm.findClass RX1 = some m.cls := findClass_of_methodNamed B.named
  have hlocks := B.notSynchronized
  subst hsz
  have hD := hD0.self (sz := s.heap.size)
  generalize hAe : va_A (houseW cyI h0 t0 t1 t2 t3 t4 t5 t6 t7 t8 w0 w1 w2 w3 w4 w5 w6 w7 w8 w9 w10 mostWear keys boxes liveKeys liveBoxes parents makes wears keysOfBoxes number heldKeys heldWhats closers closerMakes stands) s.heap.size = A at hD ⊢
  have hA : ∀ q : Nat, s.heap.size ≤ q → A q := fun q h => by rw [← hAe]; exact Or.inr h
  have hS : va_S A s.heap s.heap [] := va_S.rf
  have kB58 : ∀ (fuel : Nat) (keys : Int32) (boxes : Int32) (liveKeys : Int32) (liveBoxes : Int32) (parents : Nat → Int32) (makes : Nat → Int32) (wears : Nat → Int32) (keysOfBoxes : Nat → Int32) (number : Int32) (heldKeys : Nat → Int32) (heldWhats : Nat → Int32) (closers : Nat → Int32) (closerMakes : Nat → Int32) (stands : Nat → Int32) (y3 : Int32) (y4 : Int32), fX1_wrapAllOn_b58 fuel keys boxes liveKeys liveBoxes parents makes wears keysOfBoxes number heldKeys heldWhats closers closerMakes stands y3 y4 = some res → ∀ (H : Heap) (locs : List Loc), va_P (dC, dI) vwCl (houseW cyI h0 t0 t1 t2 t3 t4 t5 t6 t7 t8 w0 w1 w2 w3 w4 w5 w6 w7 w8 w9 w10 mostWear keys boxes liveKeys liveBoxes parents makes wears keysOfBoxes number heldKeys heldWhats closers closerMakes stands) H → va_D A (houseW cyI h0 t0 t1 t2 t3 t4 t5 t6 t7 t8 w0 w1 w2 w3 w4 w5 w6 w7 w8 w9 w10 mostWear keys boxes liveKeys liveBoxes parents makes wears keysOfBoxes number heldKeys heldWhats closers closerMakes stands) → va_S A s.heap H locs → ∀ ls : Array Slot, lv_has ls 5 [(0, .ref h0), (3, .int y3), (4, .int y4)] → W p l e (headSpec (wsG yX1_wrapAllOn cX1_wrapAllOn 5 none) ({ frames := 3, cells := 0, slots := 0, locals := 68 })).room s m (([.ref h0, .int x1] : List Value).toArray) below meth c H locs 0 0 (MQ below (cV dC dI (houseW cyI h0 t0 t1 t2 t3 t4 t5 t6 t7 t8 w0 w1 w2 w3 w4 w5 w6 w7 w8 w9 w10 mostWear keys boxes liveKeys liveBoxes parents makes res.1 keysOfBoxes res.2.1 res.2.2.1 res.2.2.2.1 res.2.2.2.2.1 res.2.2.2.2.2.1 res.2.2.2.2.2.2) A) ([.ref h0, .int x1] : List Value).toArray s 0 0 A) (F0 m 58 ls []) := by
    intro fuel
    induction fuel with
    | zero => intro keys boxes liveKeys liveBoxes parents makes wears keysOfBoxes number heldKeys heldWhats closers closerMakes stands y3 y4 h; rw [fX1_wrapAllOn_b58] at h; cases h
    | succ fuel ih =>
      intro keys boxes liveKeys liveBoxes parents makes wears keysOfBoxes number heldKeys heldWhats closers closerMakes stands y3 y4 h H locs hP hD hS ls hl
      rw [fX1_wrapAllOn_b58] at h
      refine lv_iload hx hb dX1_wrapAllOn_58 (lv_at hl 2 rfl) ?_
      refine lv_bipush (v := 20) hx hb dX1_wrapAllOn_60 (by decide) ?_
      refine lv_icmp_ge (tgt := 86) hx hb dX1_wrapAllOn_62 (by decide) (fun c1 => ?_) (fun c1 => ?_)
      · have h := (if_pos c1).symm.trans h
        obtain rfl := Option.some.inj h
        exact e_v hx hb hr hlocks hP hS dX1_wrapAllOn_86
      · have h := (if_neg c1).symm.trans h
        refine lv_iload_n hx hb dX1_wrapAllOn_65 rfl (lv_at hl 1 rfl) ?_
        refine lv_iload hx hb dX1_wrapAllOn_66 (lv_at hl 2 rfl) ?_
        refine fr_ir (M := ([] : va_W)) (va_runSN (host := "HangingKeys") (As := [.int y3, .int y4]) (rest := []) ⟨hx, hb, hml, hown, hts⟩ (mX7_has l dC dI cyI cyO cyL y3 y4 _ (fX7_has y3 y4) rfl) ⟨va_cnB 2 hts (gW co_X7_has) rfl rfl rfl (hK.2 _ nl_X1_115) (hts _ (gb_mem in_X7)) (by decide +kernel) ⟨Nat.le_of_ble_eq_true rfl, Nat.le_of_ble_eq_true rfl⟩, hts _ (gb_mem st_X7_has), trivial⟩ (cP_S hK hP hD [] rfl rfl) rfl rfl hl.1 rfl (lv_room (Nat.le_of_ble_eq_true rfl)) dX1_wrapAllOn_68 ⟨Nat.zero_le _, Nat.zero_le _⟩) hP hD hS hA [] rfl (fun H locs hP hS => ?_)
        refine lv_if_eq (tgt := 80) hx hb dX1_wrapAllOn_71 (by decide) (fun c2 => ?_) (fun c2 => ?_)
        · have h := (if_pos c2).symm.trans h
          refine lv_iinc (v := (y4 + 1)) (lv' := [(4, .int (y4 + 1)), (0, .ref h0), (3, .int y3)]) hx hb dX1_wrapAllOn_80 hl (k := 2) rfl rfl (by decide) rfl (fun ls hl => ?_)
          refine lv_goto (tgt := 58) hx hb dX1_wrapAllOn_83 (by decide) ?_
          exact ih keys boxes liveKeys liveBoxes parents makes wears keysOfBoxes number heldKeys heldWhats closers closerMakes stands y3 (y4 + 1) h _ _ hP hD hS ls (lv_sub hl [1, 2, 0] rfl)
        · have h := (if_neg c2).symm.trans h
          refine lv_aload_n hx hb dX1_wrapAllOn_74 rfl (lv_at hl 0 rfl) ?_
          refine lv_iload hx hb dX1_wrapAllOn_75 (lv_at hl 2 rfl) ?_
          obtain ⟨q3, e4, h⟩ := ob h
          refine fr_v (M := (houseW cyI h0 t0 t1 t2 t3 t4 t5 t6 t7 t8 w0 w1 w2 w3 w4 w5 w6 w7 w8 w9 w10 mostWear keys boxes liveKeys liveBoxes parents makes wears keysOfBoxes number heldKeys heldWhats closers closerMakes stands)) (M' := (houseW cyI h0 t0 t1 t2 t3 t4 t5 t6 t7 t8 w0 w1 w2 w3 w4 w5 w6 w7 w8 w9 w10 mostWear keys boxes liveKeys liveBoxes parents makes q3.1 keysOfBoxes q3.2.1 q3.2.2.1 q3.2.2.2.1 q3.2.2.2.2.1 q3.2.2.2.2.2.1 q3.2.2.2.2.2.2)) (L' := (houseW cyI h0 t0 t1 t2 t3 t4 t5 t6 t7 t8 w0 w1 w2 w3 w4 w5 w6 w7 w8 w9 w10 mostWear keys boxes liveKeys liveBoxes parents makes q3.1 keysOfBoxes q3.2.1 q3.2.2.1 q3.2.2.2.1 q3.2.2.2.2.1 q3.2.2.2.2.2.1 q3.2.2.2.2.2.2)) (va_runV (As := [.int y4]) (rest := []) ⟨hx, hb, hml, hown, hts⟩ (mX1_wrapBox l dC dI cyI cyO cyL h0 t0 t1 t2 t3 t4 t5 t6 t7 t8 w0 w1 w2 w3 w4 w5 w6 w7 w8 w9 w10 mostWear keys boxes liveKeys liveBoxes parents makes wears keysOfBoxes number heldKeys heldWhats closers closerMakes stands y4 _ q3 e4) (cwV 1 hts (gV ml_X1_56 im_X1_wrapBox se_X1_wrapBox in_X1 co_X1_wrapBox) rfl rfl rfl (by decide +kernel) ⟨Nat.le_of_ble_eq_true rfl, Nat.le_of_ble_eq_true rfl⟩) (cP_V hK hP hD [0, 1, 2, 3, 4, 5, 6, 7, 8, 9, 10, 11, 12, 13, 14, 15, 16, 17, 18, 19, 20] rfl rfl 0 rfl rfl) rfl rfl hl.1 rfl (lv_room (Nat.le_of_ble_eq_true rfl)) dX1_wrapAllOn_77 ⟨Nat.zero_le _, Nat.zero_le _⟩) hP hD hS hA [0, 1, 2, 3, 4, 5, 6, 7, 8, 9, 10, 11, 12, 13, 14, 15, 16, 17, 18, 19, 20] rfl [(true, 0), (true, 1), (true, 2), (true, 3), (true, 4), (true, 5), (true, 6), (true, 7), (true, 8), (true, 9), (true, 10), (true, 11), (true, 12), (true, 13), (true, 14), (true, 15), (true, 16), (true, 17), (true, 18), (true, 19), (true, 20)] rfl rfl rfl (fun H locs hP hD hS => ?_)
          refine lv_iinc (v := (y4 + 1)) (lv' := [(4, .int (y4 + 1)), (0, .ref h0), (3, .int y3)]) hx hb dX1_wrapAllOn_80 hl (k := 2) rfl rfl (by decide) rfl (fun ls hl => ?_)
          refine lv_goto (tgt := 58) hx hb dX1_wrapAllOn_83 (by decide) ?_
          exact ih keys boxes liveKeys liveBoxes parents makes q3.1 keysOfBoxes q3.2.1 q3.2.2.1 q3.2.2.2.1 q3.2.2.2.2.1 q3.2.2.2.2.2.1 q3.2.2.2.2.2.2 y3 (y4 + 1) h _ _ hP hD hS ls (lv_sub hl [1, 2, 0] rfl)
  have kB27 : ∀ (fuel : Nat) (keys : Int32) (boxes : Int32) (liveKeys : Int32) (liveBoxes : Int32) (parents : Nat → Int32) (makes : Nat → Int32) (wears : Nat → Int32) (keysOfBoxes : Nat → Int32) (number : Int32) (heldKeys : Nat → Int32) (heldWhats : Nat → Int32) (closers : Nat → Int32) (closerMakes : Nat → Int32) (stands : Nat → Int32) (y2 : Int32) (y3 : Int32) (y4 : Int32), fX1_wrapAllOn_b27 fuel keys boxes liveKeys liveBoxes parents makes wears keysOfBoxes number heldKeys heldWhats closers closerMakes stands y2 y3 y4 = some res → ∀ (H : Heap) (locs : List Loc), va_P (dC, dI) vwCl (houseW cyI h0 t0 t1 t2 t3 t4 t5 t6 t7 t8 w0 w1 w2 w3 w4 w5 w6 w7 w8 w9 w10 mostWear keys boxes liveKeys liveBoxes parents makes wears keysOfBoxes number heldKeys heldWhats closers closerMakes stands) H → va_D A (houseW cyI h0 t0 t1 t2 t3 t4 t5 t6 t7 t8 w0 w1 w2 w3 w4 w5 w6 w7 w8 w9 w10 mostWear keys boxes liveKeys liveBoxes parents makes wears keysOfBoxes number heldKeys heldWhats closers closerMakes stands) → va_S A s.heap H locs → ∀ ls : Array Slot, lv_has ls 5 [(0, .ref h0), (2, .int y2), (3, .int y3), (4, .int y4)] → W p l e (headSpec (wsG yX1_wrapAllOn cX1_wrapAllOn 5 none) ({ frames := 3, cells := 0, slots := 0, locals := 68 })).room s m (([.ref h0, .int x1] : List Value).toArray) below meth c H locs 0 0 (MQ below (cV dC dI (houseW cyI h0 t0 t1 t2 t3 t4 t5 t6 t7 t8 w0 w1 w2 w3 w4 w5 w6 w7 w8 w9 w10 mostWear keys boxes liveKeys liveBoxes parents makes res.1 keysOfBoxes res.2.1 res.2.2.1 res.2.2.2.1 res.2.2.2.2.1 res.2.2.2.2.2.1 res.2.2.2.2.2.2) A) ([.ref h0, .int x1] : List Value).toArray s 0 0 A) (F0 m 27 ls []) := by
    intro fuel
    induction fuel with
    | zero => intro keys boxes liveKeys liveBoxes parents makes wears keysOfBoxes number heldKeys heldWhats closers closerMakes stands y2 y3 y4 h; rw [fX1_wrapAllOn_b27] at h; cases h
    | succ fuel ih =>
      intro keys boxes liveKeys liveBoxes parents makes wears keysOfBoxes number heldKeys heldWhats closers closerMakes stands y2 y3 y4 h H locs hP hD hS ls hl
      rw [fX1_wrapAllOn_b27] at h
      refine lv_iload hx hb dX1_wrapAllOn_27 (lv_at hl 3 rfl) ?_
      refine lv_bipush (v := 20) hx hb dX1_wrapAllOn_29 (by decide) ?_
      refine lv_icmp_ge (tgt := 55) hx hb dX1_wrapAllOn_31 (by decide) (fun c5 => ?_) (fun c5 => ?_)
      · have h := (if_pos c5).symm.trans h
        refine lv_iconst (v := 0) hx hb dX1_wrapAllOn_55 (by decide) ?_
        refine lv_istore (lv' := [(4, .int 0), (0, .ref h0), (2, .int y2), (3, .int y3)]) hx hb dX1_wrapAllOn_56 hl (by decide) rfl (fun ls hl => ?_)
        exact kB58 6000 keys boxes liveKeys liveBoxes parents makes wears keysOfBoxes number heldKeys heldWhats closers closerMakes stands y3 0 h _ _ hP hD hS ls (lv_sub hl [1, 3, 0] rfl)
      · have h := (if_neg c5).symm.trans h
        refine lv_iload_n hx hb dX1_wrapAllOn_34 rfl (lv_at hl 1 rfl) ?_
        refine lv_iload hx hb dX1_wrapAllOn_35 (lv_at hl 3 rfl) ?_
        refine fr_ir (M := ([] : va_W)) (va_runSN (host := "HangingKeys") (As := [.int y2, .int y4]) (rest := []) ⟨hx, hb, hml, hown, hts⟩ (mX7_has l dC dI cyI cyO cyL y2 y4 _ (fX7_has y2 y4) rfl) ⟨va_cnB 2 hts (gW co_X7_has) rfl rfl rfl (hK.2 _ nl_X1_115) (hts _ (gb_mem in_X7)) (by decide +kernel) ⟨Nat.le_of_ble_eq_true rfl, Nat.le_of_ble_eq_true rfl⟩, hts _ (gb_mem st_X7_has), trivial⟩ (cP_S hK hP hD [] rfl rfl) rfl rfl hl.1 rfl (lv_room (Nat.le_of_ble_eq_true rfl)) dX1_wrapAllOn_37 ⟨Nat.zero_le _, Nat.zero_le _⟩) hP hD hS hA [] rfl (fun H locs hP hS => ?_)
        refine lv_if_eq (tgt := 49) hx hb dX1_wrapAllOn_40 (by decide) (fun c6 => ?_) (fun c6 => ?_)
        · have h := (if_pos c6).symm.trans h
          refine lv_iinc (v := (y4 + 1)) (lv' := [(4, .int (y4 + 1)), (0, .ref h0), (2, .int y2), (3, .int y3)]) hx hb dX1_wrapAllOn_49 hl (k := 3) rfl rfl (by decide) rfl (fun ls hl => ?_)
          refine lv_goto (tgt := 27) hx hb dX1_wrapAllOn_52 (by decide) ?_
          exact ih keys boxes liveKeys liveBoxes parents makes wears keysOfBoxes number heldKeys heldWhats closers closerMakes stands y2 y3 (y4 + 1) h _ _ hP hD hS ls (lv_sub hl [1, 2, 3, 0] rfl)
        · have h := (if_neg c6).symm.trans h
          refine lv_aload_n hx hb dX1_wrapAllOn_43 rfl (lv_at hl 0 rfl) ?_
          refine lv_iload hx hb dX1_wrapAllOn_44 (lv_at hl 3 rfl) ?_
          obtain ⟨q7, e8, h⟩ := ob h
          refine fr_v (M := (houseW cyI h0 t0 t1 t2 t3 t4 t5 t6 t7 t8 w0 w1 w2 w3 w4 w5 w6 w7 w8 w9 w10 mostWear keys boxes liveKeys liveBoxes parents makes wears keysOfBoxes number heldKeys heldWhats closers closerMakes stands)) (M' := (houseW cyI h0 t0 t1 t2 t3 t4 t5 t6 t7 t8 w0 w1 w2 w3 w4 w5 w6 w7 w8 w9 w10 mostWear keys boxes liveKeys liveBoxes parents makes q7.1 keysOfBoxes q7.2.1 q7.2.2.1 q7.2.2.2.1 q7.2.2.2.2.1 q7.2.2.2.2.2.1 q7.2.2.2.2.2.2)) (L' := (houseW cyI h0 t0 t1 t2 t3 t4 t5 t6 t7 t8 w0 w1 w2 w3 w4 w5 w6 w7 w8 w9 w10 mostWear keys boxes liveKeys liveBoxes parents makes q7.1 keysOfBoxes q7.2.1 q7.2.2.1 q7.2.2.2.1 q7.2.2.2.2.1 q7.2.2.2.2.2.1 q7.2.2.2.2.2.2)) (va_runV (As := [.int y4]) (rest := []) ⟨hx, hb, hml, hown, hts⟩ (mX1_wrapKey l dC dI cyI cyO cyL h0 t0 t1 t2 t3 t4 t5 t6 t7 t8 w0 w1 w2 w3 w4 w5 w6 w7 w8 w9 w10 mostWear keys boxes liveKeys liveBoxes parents makes wears keysOfBoxes number heldKeys heldWhats closers closerMakes stands y4 _ q7 e8) (cwV 1 hts (gV ml_X1_46 im_X1_wrapKey se_X1_wrapKey in_X1 co_X1_wrapKey) rfl rfl rfl (by decide +kernel) ⟨Nat.le_of_ble_eq_true rfl, Nat.le_of_ble_eq_true rfl⟩) (cP_V hK hP hD [0, 1, 2, 3, 4, 5, 6, 7, 8, 9, 10, 11, 12, 13, 14, 15, 16, 17, 18, 19, 20] rfl rfl 0 rfl rfl) rfl rfl hl.1 rfl (lv_room (Nat.le_of_ble_eq_true rfl)) dX1_wrapAllOn_46 ⟨Nat.zero_le _, Nat.zero_le _⟩) hP hD hS hA [0, 1, 2, 3, 4, 5, 6, 7, 8, 9, 10, 11, 12, 13, 14, 15, 16, 17, 18, 19, 20] rfl [(true, 0), (true, 1), (true, 2), (true, 3), (true, 4), (true, 5), (true, 6), (true, 7), (true, 8), (true, 9), (true, 10), (true, 11), (true, 12), (true, 13), (true, 14), (true, 15), (true, 16), (true, 17), (true, 18), (true, 19), (true, 20)] rfl rfl rfl (fun H locs hP hD hS => ?_)
          refine lv_iinc (v := (y4 + 1)) (lv' := [(4, .int (y4 + 1)), (0, .ref h0), (2, .int y2), (3, .int y3)]) hx hb dX1_wrapAllOn_49 hl (k := 3) rfl rfl (by decide) rfl (fun ls hl => ?_)
          refine lv_goto (tgt := 27) hx hb dX1_wrapAllOn_52 (by decide) ?_
          exact ih keys boxes liveKeys liveBoxes parents makes q7.1 keysOfBoxes q7.2.1 q7.2.2.1 q7.2.2.2.1 q7.2.2.2.2.1 q7.2.2.2.2.2.1 q7.2.2.2.2.2.2 y2 y3 (y4 + 1) h _ _ hP hD hS ls (lv_sub hl [1, 2, 3, 0] rfl)
  have hl := lv_entry ([.ref h0, .int x1]) (n := 5) (Nat.le_of_ble_eq_true rfl)
  rw [lg_entry_eq]
  generalize (lg_sl ([.ref h0, .int x1]) ++ List.replicate (5 - (lg_sl ([.ref h0, .int x1])).length) Slot.unset).toArray = ls at hl ⊢
  have hl : lv_has ls 5 [(0, .ref h0), (1, .int x1)] := hl
  unfold fX1_wrapAllOn at h
  refine lv_aload_n hx hb dX1_wrapAllOn_0 rfl (lv_at hl 0 rfl) ?_
  refine va_get (D := (dC, dI)) (ci := 1) (v := .ref t0) (C := RX1) (T := TX1) (N := 2) hx hb hts (fun w h9 => gb_mem (lay_X1 w h9)) hown hK.1 hP 0 rfl rfl 0 (by decide) (hts _ (gb_mem fl_X1_12)) (fun _ h9 => h9) rfl dX1_wrapAllOn_1 ?_
  refine lv_iload_n hx hb dX1_wrapAllOn_4 rfl (lv_at hl 1 rfl) ?_
  refine fr_ir (M := ([] : va_W)) (va_runSN (host := "HangingKeys") (As := [.int x1]) (rest := [.ref t0]) ⟨hx, hb, hml, hown, hts⟩ (mX7_setOf l dC dI cyI cyO cyL x1 _ (fX7_setOf x1) rfl) ⟨va_cnB 1 hts (gW co_X7_setOf) rfl rfl rfl (hK.2 _ nl_X1_66) (hts _ (gb_mem in_X7)) (by decide +kernel) ⟨Nat.le_of_ble_eq_true rfl, Nat.le_of_ble_eq_true rfl⟩, hts _ (gb_mem st_X7_setOf), trivial⟩ (cP_S hK hP hD [] rfl rfl) rfl rfl hl.1 rfl (lv_room (Nat.le_of_ble_eq_true rfl)) dX1_wrapAllOn_5 ⟨Nat.zero_le _, Nat.zero_le _⟩) hP hD hS hA [] rfl (fun H locs hP hS => ?_)
  obtain ⟨q9, e10, h⟩ := ob h
  refine fr_ir (M := (treeW cyI t0 t1 t2 t3 t4 t5 t6 t7 t8 mostWear keys boxes liveKeys liveBoxes parents makes wears keysOfBoxes)) (va_runV (As := [.int (fX7_setOf x1)]) (rest := []) ⟨hx, hb, hml, hown, hts⟩ (mX5_liveKeysOn l dC dI cyI cyO cyL t0 t1 t2 t3 t4 t5 t6 t7 t8 mostWear keys boxes liveKeys liveBoxes parents makes wears keysOfBoxes (fX7_setOf x1) _ q9 e10) (cwV 1 hts (gV ml_X1_118 im_X5_liveKeysOn se_X5_liveKeysOn in_X5 co_X5_liveKeysOn) rfl rfl rfl (by decide +kernel) ⟨Nat.le_of_ble_eq_true rfl, Nat.le_of_ble_eq_true rfl⟩) (cP_V hK hP hD [1, 2, 3, 4, 5, 6, 7, 8, 9] rfl rfl 1 rfl rfl) rfl rfl hl.1 rfl (lv_room (Nat.le_of_ble_eq_true rfl)) dX1_wrapAllOn_8 ⟨Nat.zero_le _, Nat.zero_le _⟩) hP hD hS hA [1, 2, 3, 4, 5, 6, 7, 8, 9] rfl (fun H locs hP hS => ?_)
  refine lv_istore_n (lv' := [(2, .int q9), (0, .ref h0), (1, .int x1)]) hx hb dX1_wrapAllOn_11 rfl hl (by decide) rfl (fun ls hl => ?_)
  refine lv_aload_n hx hb dX1_wrapAllOn_12 rfl (lv_at hl 1 rfl) ?_
  refine va_get (D := (dC, dI)) (ci := 1) (v := .ref t0) (C := RX1) (T := TX1) (N := 2) hx hb hts (fun w h9 => gb_mem (lay_X1 w h9)) hown hK.1 hP 0 rfl rfl 0 (by decide) (hts _ (gb_mem fl_X1_12)) (fun _ h9 => h9) rfl dX1_wrapAllOn_13 ?_
  refine lv_iload_n hx hb dX1_wrapAllOn_16 rfl (lv_at hl 2 rfl) ?_
  refine fr_ir (M := ([] : va_W)) (va_runSN (host := "HangingKeys") (As := [.int x1]) (rest := [.ref t0]) ⟨hx, hb, hml, hown, hts⟩ (mX7_setOf l dC dI cyI cyO cyL x1 _ (fX7_setOf x1) rfl) ⟨va_cnB 1 hts (gW co_X7_setOf) rfl rfl rfl (hK.2 _ nl_X1_66) (hts _ (gb_mem in_X7)) (by decide +kernel) ⟨Nat.le_of_ble_eq_true rfl, Nat.le_of_ble_eq_true rfl⟩, hts _ (gb_mem st_X7_setOf), trivial⟩ (cP_S hK hP hD [] rfl rfl) rfl rfl hl.1 rfl (lv_room (Nat.le_of_ble_eq_true rfl)) dX1_wrapAllOn_17 ⟨Nat.zero_le _, Nat.zero_le _⟩) hP hD hS hA [] rfl (fun H locs hP hS => ?_)
  obtain ⟨q11, e12, h⟩ := ob h
  refine fr_ir (M := (treeW cyI t0 t1 t2 t3 t4 t5 t6 t7 t8 mostWear keys boxes liveKeys liveBoxes parents makes wears keysOfBoxes)) (va_runV (As := [.int (fX7_setOf x1)]) (rest := []) ⟨hx, hb, hml, hown, hts⟩ (mX5_liveBoxesOn l dC dI cyI cyO cyL t0 t1 t2 t3 t4 t5 t6 t7 t8 mostWear keys boxes liveKeys liveBoxes parents makes wears keysOfBoxes (fX7_setOf x1) _ q11 e12) (cwV 1 hts (gV ml_X1_102 im_X5_liveBoxesOn se_X5_liveBoxesOn in_X5 co_X5_liveBoxesOn) rfl rfl rfl (by decide +kernel) ⟨Nat.le_of_ble_eq_true rfl, Nat.le_of_ble_eq_true rfl⟩) (cP_V hK hP hD [1, 2, 3, 4, 5, 6, 7, 8, 9] rfl rfl 1 rfl rfl) rfl rfl hl.1 rfl (lv_room (Nat.le_of_ble_eq_true rfl)) dX1_wrapAllOn_20 ⟨Nat.zero_le _, Nat.zero_le _⟩) hP hD hS hA [1, 2, 3, 4, 5, 6, 7, 8, 9] rfl (fun H locs hP hS => ?_)
  refine lv_istore_n (lv' := [(3, .int q11), (2, .int q9), (0, .ref h0), (1, .int x1)]) hx hb dX1_wrapAllOn_23 rfl hl (by decide) rfl (fun ls hl => ?_)
  refine lv_iconst (v := 0) hx hb dX1_wrapAllOn_24 (by decide) ?_
  refine lv_istore (lv' := [(4, .int 0), (3, .int q11), (2, .int q9), (0, .ref h0), (1, .int x1)]) hx hb dX1_wrapAllOn_25 hl (by decide) rfl (fun ls hl => ?_)
  exact kB27 6000 keys boxes liveKeys liveBoxes parents makes wears keysOfBoxes number heldKeys heldWhats closers closerMakes stands q9 q11 0 h _ _ hP hD hS ls (lv_sub hl [3, 2, 1, 0] rfl)
noncomputable def fX1_makeAnew_b44 (mostWear : Int32) (keys : Int32) (boxes : Int32) (liveKeys : Int32) (liveBoxes : Int32) (parents : Nat → Int32) (makes : Nat → Int32) (wears : Nat → Int32) (keysOfBoxes : Nat → Int32) (number : Int32) (heldKeys : Nat → Int32) (heldWhats : Nat → Int32) (closers : Nat → Int32) (closerMakes : Nat → Int32) (stands : Nat → Int32) (y1 : Int32) (y2 : Int32) (y3 : Int32) (z0 : Int32) : Option (Int32 × (Nat → Int32) × (Nat → Int32) × Int32 × (Nat → Int32) × (Nat → Int32) × (Nat → Int32) × (Nat → Int32) × (Nat → Int32)) :=
  (if (fX6_haveRoomFor number z0) = 0 then (some ((-4), makes, wears, number, heldKeys, heldWhats, closers, closerMakes, stands)) else (if y2 = 0 then (if (fX5_leftToClose mostWear wears (fX5_parentOf parents y1)) = 0 then (some ((-5), makes, wears, number, heldKeys, heldWhats, closers, closerMakes, stands)) else (if y3 ≤ mostWear then ((fX1_startNextMakes makes wears number heldKeys heldWhats closers closerMakes stands (fX7_setOf y1)).bind fun q15 => (if y2 = 0 then ((fX1_wrapKey parents q15.1 q15.2.1 number heldKeys heldWhats closers closerMakes q15.2.2 y1).bind fun q20 => ((fX1_wrapAllOn keys boxes liveKeys liveBoxes parents q15.1 q20.1 keysOfBoxes q20.2.1 q20.2.2.1 q20.2.2.2.1 q20.2.2.2.2.1 q20.2.2.2.2.2.1 q20.2.2.2.2.2.2 y1).bind fun q22 => (some (z0, q15.1, q22.1, q22.2.1, q22.2.2.1, q22.2.2.2.1, q22.2.2.2.2.1, q22.2.2.2.2.2.1, q22.2.2.2.2.2.2)))) else ((fX1_wrapAllOn keys boxes liveKeys liveBoxes parents q15.1 q15.2.1 keysOfBoxes number heldKeys heldWhats closers closerMakes q15.2.2 y1).bind fun q18 => (some (z0, q15.1, q18.1, q18.2.1, q18.2.2.1, q18.2.2.2.1, q18.2.2.2.2.1, q18.2.2.2.2.2.1, q18.2.2.2.2.2.2))))) else (some ((-5), makes, wears, number, heldKeys, heldWhats, closers, closerMakes, stands)))) else (if y3 ≤ mostWear then ((fX1_startNextMakes makes wears number heldKeys heldWhats closers closerMakes stands (fX7_setOf y1)).bind fun q4 => (if y2 = 0 then ((fX1_wrapKey parents q4.1 q4.2.1 number heldKeys heldWhats closers closerMakes q4.2.2 y1).bind fun q9 => ((fX1_wrapAllOn keys boxes liveKeys liveBoxes parents q4.1 q9.1 keysOfBoxes q9.2.1 q9.2.2.1 q9.2.2.2.1 q9.2.2.2.2.1 q9.2.2.2.2.2.1 q9.2.2.2.2.2.2 y1).bind fun q11 => (some (z0, q4.1, q11.1, q11.2.1, q11.2.2.1, q11.2.2.2.1, q11.2.2.2.2.1, q11.2.2.2.2.2.1, q11.2.2.2.2.2.2)))) else ((fX1_wrapAllOn keys boxes liveKeys liveBoxes parents q4.1 q4.2.1 keysOfBoxes number heldKeys heldWhats closers closerMakes q4.2.2 y1).bind fun q7 => (some (z0, q4.1, q7.1, q7.2.1, q7.2.2.1, q7.2.2.2.1, q7.2.2.2.2.1, q7.2.2.2.2.2.1, q7.2.2.2.2.2.2))))) else (some ((-5), makes, wears, number, heldKeys, heldWhats, closers, closerMakes, stands)))))

noncomputable def fX1_makeAnew (mostWear : Int32) (keys : Int32) (boxes : Int32) (liveKeys : Int32) (liveBoxes : Int32) (parents : Nat → Int32) (makes : Nat → Int32) (wears : Nat → Int32) (keysOfBoxes : Nat → Int32) (number : Int32) (heldKeys : Nat → Int32) (heldWhats : Nat → Int32) (closers : Nat → Int32) (closerMakes : Nat → Int32) (stands : Nat → Int32) (x1 : Int32) : Option (Int32 × (Nat → Int32) × (Nat → Int32) × Int32 × (Nat → Int32) × (Nat → Int32) × (Nat → Int32) × (Nat → Int32) × (Nat → Int32)) :=
  (if (fX5_isLiveKey liveKeys x1) = 0 then (some ((-1), makes, wears, number, heldKeys, heldWhats, closers, closerMakes, stands)) else ((fX1_hangingWithout keys boxes liveKeys liveBoxes parents keysOfBoxes (fX7_setOf x1) 0 0).bind fun q25 => (if (fX5_isRoot parents x1) = 0 then fX1_makeAnew_b44 mostWear keys boxes liveKeys liveBoxes parents makes wears keysOfBoxes number heldKeys heldWhats closers closerMakes stands x1 (fX5_isRoot parents x1) q25 (q25 + 1) else fX1_makeAnew_b44 mostWear keys boxes liveKeys liveBoxes parents makes wears keysOfBoxes number heldKeys heldWhats closers closerMakes stands x1 (fX5_isRoot parents x1) q25 q25)))
set_option maxHeartbeats 1000000 in
set_option maxRecDepth 100000 in
theorem mX1_makeAnew (l : Launch) (dC : Nat → ClassId) (dI : Nat → Nat → Nat) (cyI cyO cyL : ClassId) (h0 t0 t1 t2 t3 t4 t5 t6 t7 t8 w0 w1 w2 w3 w4 w5 w6 w7 w8 w9 w10 : Nat) (mostWear : Int32) (keys : Int32) (boxes : Int32) (liveKeys : Int32) (liveBoxes : Int32) (parents : Nat → Int32) (makes : Nat → Int32) (wears : Nat → Int32) (keysOfBoxes : Nat → Int32) (number : Int32) (heldKeys : Nat → Int32) (heldWhats : Nat → Int32) (closers : Nat → Int32) (closerMakes : Nat → Int32) (stands : Nat → Int32) (x1 : Int32) (sz : Nat) (res : Int32 × (Nat → Int32) × (Nat → Int32) × Int32 × (Nat → Int32) × (Nat → Int32) × (Nat → Int32) × (Nat → Int32) × (Nat → Int32)) (h : fX1_makeAnew mostWear keys boxes liveKeys liveBoxes parents makes wears keysOfBoxes number heldKeys heldWhats closers closerMakes stands x1 = some res) : Met l yX1_makeAnew (wsG yX1_makeAnew cX1_makeAnew 5 (some .int)) ({ frames := 4, cells := 0, slots := 0, locals := 92 }) (cP dC dI cyI cyO cyL sz [.ref h0, .int x1] (houseW cyI h0 t0 t1 t2 t3 t4 t5 t6 t7 t8 w0 w1 w2 w3 w4 w5 w6 w7 w8 w9 w10 mostWear keys boxes liveKeys liveBoxes parents makes wears keysOfBoxes number heldKeys heldWhats closers closerMakes stands)) (cI dC dI res.1 (houseW cyI h0 t0 t1 t2 t3 t4 t5 t6 t7 t8 w0 w1 w2 w3 w4 w5 w6 w7 w8 w9 w10 mostWear keys boxes liveKeys liveBoxes parents res.2.1 res.2.2.1 keysOfBoxes res.2.2.2.1 res.2.2.2.2.1 res.2.2.2.2.2.1 res.2.2.2.2.2.2.1 res.2.2.2.2.2.2.2.1 res.2.2.2.2.2.2.2.2) (va_A (houseW cyI h0 t0 t1 t2 t3 t4 t5 t6 t7 t8 w0 w1 w2 w3 w4 w5 w6 w7 w8 w9 w10 mostWear keys boxes liveKeys liveBoxes parents makes wears keysOfBoxes number heldKeys heldWhats closers closerMakes stands) sz)) 0 0 (va_A (houseW cyI h0 t0 t1 t2 t3 t4 t5 t6 t7 t8 w0 w1 w2 w3 w4 w5 w6 w7 w8 w9 w10 mostWear keys boxes liveKeys liveBoxes parents makes wears keysOfBoxes number heldKeys heldWhats closers closerMakes stands) sz) := by
  refine Met.ofW (cc := cX1_makeAnew) (maxL := 5) (ret := (some .int)) (by decide) rfl ?_
  intro p e s m args below meth c s₁ B hml hv
  obtain ⟨rfl, hsz, hP, hK, hD0⟩ := hv
  have hx := B.exec
  have hb := B.bytes
  have hr := B.returns
  have hts := atoms_spec (ws := wsG yX1_makeAnew cX1_makeAnew 5 (some .int)) B.pre
  have hown : s.vm.findClass RX1 = some m.cls := findClass_of_methodNamed B.named
  have hlocks := B.notSynchronized
  subst hsz
  have hD := hD0.self (sz := s.heap.size)
  generalize hAe : va_A (houseW cyI h0 t0 t1 t2 t3 t4 t5 t6 t7 t8 w0 w1 w2 w3 w4 w5 w6 w7 w8 w9 w10 mostWear keys boxes liveKeys liveBoxes parents makes wears keysOfBoxes number heldKeys heldWhats closers closerMakes stands) s.heap.size = A at hD ⊢
  have hA : ∀ q : Nat, s.heap.size ≤ q → A q := fun q h => by rw [← hAe]; exact Or.inr h
  have hS : va_S A s.heap s.heap [] := va_S.rf
  have kB44 : ∀ (mostWear : Int32) (keys : Int32) (boxes : Int32) (liveKeys : Int32) (liveBoxes : Int32) (parents : Nat → Int32) (makes : Nat → Int32) (wears : Nat → Int32) (keysOfBoxes : Nat → Int32) (number : Int32) (heldKeys : Nat → Int32) (heldWhats : Nat → Int32) (closers : Nat → Int32) (closerMakes : Nat → Int32) (stands : Nat → Int32) (y1 : Int32) (y2 : Int32) (y3 : Int32) (z0 : Int32), fX1_makeAnew_b44 mostWear keys boxes liveKeys liveBoxes parents makes wears keysOfBoxes number heldKeys heldWhats closers closerMakes stands y1 y2 y3 z0 = some res → ∀ (H : Heap) (locs : List Loc), va_P (dC, dI) vwCl (houseW cyI h0 t0 t1 t2 t3 t4 t5 t6 t7 t8 w0 w1 w2 w3 w4 w5 w6 w7 w8 w9 w10 mostWear keys boxes liveKeys liveBoxes parents makes wears keysOfBoxes number heldKeys heldWhats closers closerMakes stands) H → va_D A (houseW cyI h0 t0 t1 t2 t3 t4 t5 t6 t7 t8 w0 w1 w2 w3 w4 w5 w6 w7 w8 w9 w10 mostWear keys boxes liveKeys liveBoxes parents makes wears keysOfBoxes number heldKeys heldWhats closers closerMakes stands) → va_S A s.heap H locs → ∀ ls : Array Slot, lv_has ls 5 [(0, .ref h0), (1, .int y1), (2, .int y2), (3, .int y3)] → W p l e (headSpec (wsG yX1_makeAnew cX1_makeAnew 5 (some .int)) ({ frames := 4, cells := 0, slots := 0, locals := 92 })).room s m (([.ref h0, .int x1] : List Value).toArray) below meth c H locs 0 0 (MQ below (cI dC dI res.1 (houseW cyI h0 t0 t1 t2 t3 t4 t5 t6 t7 t8 w0 w1 w2 w3 w4 w5 w6 w7 w8 w9 w10 mostWear keys boxes liveKeys liveBoxes parents res.2.1 res.2.2.1 keysOfBoxes res.2.2.2.1 res.2.2.2.2.1 res.2.2.2.2.2.1 res.2.2.2.2.2.2.1 res.2.2.2.2.2.2.2.1 res.2.2.2.2.2.2.2.2) A) ([.ref h0, .int x1] : List Value).toArray s 0 0 A) (F0 m 44 ls [.int z0]) := by
    intro mostWear keys boxes liveKeys liveBoxes parents makes wears keysOfBoxes number heldKeys heldWhats closers closerMakes stands y1 y2 y3 z0 h H locs hP hD hS ls hl
    unfold fX1_makeAnew_b44 at h
    refine lv_istore (lv' := [(4, .int z0), (0, .ref h0), (1, .int y1), (2, .int y2), (3, .int y3)]) hx hb dX1_makeAnew_44 hl (by decide) rfl (fun ls hl => ?_)
    refine lv_aload_n hx hb dX1_makeAnew_46 rfl (lv_at hl 1 rfl) ?_
    refine va_get (D := (dC, dI)) (ci := 1) (v := .ref w0) (C := RX1) (T := TX1) (N := 2) hx hb hts (fun w h9 => gb_mem (lay_X1 w h9)) hown hK.1 hP 0 rfl rfl 1 (by decide) (hts _ (gb_mem fl_X1_21)) (fun _ h9 => h9) rfl dX1_makeAnew_47 ?_
    refine lv_iload hx hb dX1_makeAnew_50 (lv_at hl 0 rfl) ?_
    refine fr_ir (M := (wrapsW cyI w0 w1 w2 w3 w4 w5 w6 w7 w8 w9 w10 number heldKeys heldWhats closers closerMakes stands)) (va_runV (As := [.int z0]) (rest := []) ⟨hx, hb, hml, hown, hts⟩ (mX6_haveRoomFor l dC dI cyI cyO cyL w0 w1 w2 w3 w4 w5 w6 w7 w8 w9 w10 number heldKeys heldWhats closers closerMakes stands z0 _ (fX6_haveRoomFor number z0) rfl) (cwV 1 hts (gV ml_X1_36 im_X6_haveRoomFor se_X6_haveRoomFor in_X6 co_X6_haveRoomFor) rfl rfl rfl (by decide +kernel) ⟨Nat.le_of_ble_eq_true rfl, Nat.le_of_ble_eq_true rfl⟩) (cP_V hK hP hD [10, 11, 12, 13, 14, 15, 16, 17, 18, 19, 20] rfl rfl 10 rfl rfl) rfl rfl hl.1 rfl (lv_room (Nat.le_of_ble_eq_true rfl)) dX1_makeAnew_52 ⟨Nat.zero_le _, Nat.zero_le _⟩) hP hD hS hA [10, 11, 12, 13, 14, 15, 16, 17, 18, 19, 20] rfl (fun H locs hP hS => ?_)
    refine lv_if_ne (tgt := 61) hx hb dX1_makeAnew_55 (by decide) (fun c1 => ?_) (fun c1 => ?_)
    · have h := (if_neg c1).symm.trans h
      refine lv_iload_n hx hb dX1_makeAnew_61 rfl (lv_at hl 3 rfl) ?_
      refine lv_if_ne (tgt := 83) hx hb dX1_makeAnew_62 (by decide) (fun c2 => ?_) (fun c2 => ?_)
      · have h := (if_neg c2).symm.trans h
        refine lv_iload_n hx hb dX1_makeAnew_83 rfl (lv_at hl 4 rfl) ?_
        refine lv_aload_n hx hb dX1_makeAnew_84 rfl (lv_at hl 1 rfl) ?_
        refine va_get (D := (dC, dI)) (ci := 1) (v := .ref t0) (C := RX1) (T := TX1) (N := 2) hx hb hts (fun w h9 => gb_mem (lay_X1 w h9)) hown hK.1 hP 0 rfl rfl 0 (by decide) (hts _ (gb_mem fl_X1_12)) (fun _ h9 => h9) rfl dX1_makeAnew_85 ?_
        refine va_getN (D := (dC, dI)) (ci := 5) (v := .int mostWear) (C := RX5) (T := TX5) (N := 9) hx hb hts (fun w h9 => gb_mem (lay_X5 w h9)) hown hK.1 hP 1 rfl rfl 0 (by decide) (va_Nw.use rfl (hK.2 _ nl_X1_25)) (fun _ h9 => h9) rfl dX1_makeAnew_88 ?_
        refine lv_icmp_le (tgt := 97) hx hb dX1_makeAnew_91 (by decide) (fun c3 => ?_) (fun c3 => ?_)
        · have h := (if_pos c3).symm.trans h
          refine lv_aload_n hx hb dX1_makeAnew_97 rfl (lv_at hl 1 rfl) ?_
          refine lv_iload_n hx hb dX1_makeAnew_98 rfl (lv_at hl 2 rfl) ?_
          refine fr_ir (M := ([] : va_W)) (va_runSN (host := "HangingKeys") (As := [.int y1]) (rest := [.ref h0]) ⟨hx, hb, hml, hown, hts⟩ (mX7_setOf l dC dI cyI cyO cyL y1 _ (fX7_setOf y1) rfl) ⟨va_cnB 1 hts (gW co_X7_setOf) rfl rfl rfl (hK.2 _ nl_X1_66) (hts _ (gb_mem in_X7)) (by decide +kernel) ⟨Nat.le_of_ble_eq_true rfl, Nat.le_of_ble_eq_true rfl⟩, hts _ (gb_mem st_X7_setOf), trivial⟩ (cP_S hK hP hD [] rfl rfl) rfl rfl hl.1 rfl (lv_room (Nat.le_of_ble_eq_true rfl)) dX1_makeAnew_99 ⟨Nat.zero_le _, Nat.zero_le _⟩) hP hD hS hA [] rfl (fun H locs hP hS => ?_)
          obtain ⟨q4, e5, h⟩ := ob h
          refine fr_v (M := (houseW cyI h0 t0 t1 t2 t3 t4 t5 t6 t7 t8 w0 w1 w2 w3 w4 w5 w6 w7 w8 w9 w10 mostWear keys boxes liveKeys liveBoxes parents makes wears keysOfBoxes number heldKeys heldWhats closers closerMakes stands)) (M' := (houseW cyI h0 t0 t1 t2 t3 t4 t5 t6 t7 t8 w0 w1 w2 w3 w4 w5 w6 w7 w8 w9 w10 mostWear keys boxes liveKeys liveBoxes parents q4.1 q4.2.1 keysOfBoxes number heldKeys heldWhats closers closerMakes q4.2.2)) (L' := (houseW cyI h0 t0 t1 t2 t3 t4 t5 t6 t7 t8 w0 w1 w2 w3 w4 w5 w6 w7 w8 w9 w10 mostWear keys boxes liveKeys liveBoxes parents q4.1 q4.2.1 keysOfBoxes number heldKeys heldWhats closers closerMakes q4.2.2)) (va_runV (As := [.int (fX7_setOf y1)]) (rest := []) ⟨hx, hb, hml, hown, hts⟩ (mX1_startNextMakes l dC dI cyI cyO cyL h0 t0 t1 t2 t3 t4 t5 t6 t7 t8 w0 w1 w2 w3 w4 w5 w6 w7 w8 w9 w10 mostWear keys boxes liveKeys liveBoxes parents makes wears keysOfBoxes number heldKeys heldWhats closers closerMakes stands (fX7_setOf y1) _ q4 e5) (cwV 1 hts (gV ml_X1_86 im_X1_startNextMakes se_X1_startNextMakes in_X1 co_X1_startNextMakes) rfl rfl rfl (by decide +kernel) ⟨Nat.le_of_ble_eq_true rfl, Nat.le_of_ble_eq_true rfl⟩) (cP_V hK hP hD [0, 1, 2, 3, 4, 5, 6, 7, 8, 9, 10, 11, 12, 13, 14, 15, 16, 17, 18, 19, 20] rfl rfl 0 rfl rfl) rfl rfl hl.1 rfl (lv_room (Nat.le_of_ble_eq_true rfl)) dX1_makeAnew_102 ⟨Nat.zero_le _, Nat.zero_le _⟩) hP hD hS hA [0, 1, 2, 3, 4, 5, 6, 7, 8, 9, 10, 11, 12, 13, 14, 15, 16, 17, 18, 19, 20] rfl [(true, 0), (true, 1), (true, 2), (true, 3), (true, 4), (true, 5), (true, 6), (true, 7), (true, 8), (true, 9), (true, 10), (true, 11), (true, 12), (true, 13), (true, 14), (true, 15), (true, 16), (true, 17), (true, 18), (true, 19), (true, 20)] rfl rfl rfl (fun H locs hP hD hS => ?_)
          refine lv_iload_n hx hb dX1_makeAnew_105 rfl (lv_at hl 3 rfl) ?_
          refine lv_if_ne (tgt := 114) hx hb dX1_makeAnew_106 (by decide) (fun c6 => ?_) (fun c6 => ?_)
          · have h := (if_neg c6).symm.trans h
            refine lv_aload_n hx hb dX1_makeAnew_114 rfl (lv_at hl 1 rfl) ?_
            refine lv_iload_n hx hb dX1_makeAnew_115 rfl (lv_at hl 2 rfl) ?_
            obtain ⟨q7, e8, h⟩ := ob h
            refine fr_v (M := (houseW cyI h0 t0 t1 t2 t3 t4 t5 t6 t7 t8 w0 w1 w2 w3 w4 w5 w6 w7 w8 w9 w10 mostWear keys boxes liveKeys liveBoxes parents q4.1 q4.2.1 keysOfBoxes number heldKeys heldWhats closers closerMakes q4.2.2)) (M' := (houseW cyI h0 t0 t1 t2 t3 t4 t5 t6 t7 t8 w0 w1 w2 w3 w4 w5 w6 w7 w8 w9 w10 mostWear keys boxes liveKeys liveBoxes parents q4.1 q7.1 keysOfBoxes q7.2.1 q7.2.2.1 q7.2.2.2.1 q7.2.2.2.2.1 q7.2.2.2.2.2.1 q7.2.2.2.2.2.2)) (L' := (houseW cyI h0 t0 t1 t2 t3 t4 t5 t6 t7 t8 w0 w1 w2 w3 w4 w5 w6 w7 w8 w9 w10 mostWear keys boxes liveKeys liveBoxes parents q4.1 q7.1 keysOfBoxes q7.2.1 q7.2.2.1 q7.2.2.2.1 q7.2.2.2.2.1 q7.2.2.2.2.2.1 q7.2.2.2.2.2.2)) (va_runV (As := [.int y1]) (rest := []) ⟨hx, hb, hml, hown, hts⟩ (mX1_wrapAllOn l dC dI cyI cyO cyL h0 t0 t1 t2 t3 t4 t5 t6 t7 t8 w0 w1 w2 w3 w4 w5 w6 w7 w8 w9 w10 mostWear keys boxes liveKeys liveBoxes parents q4.1 q4.2.1 keysOfBoxes number heldKeys heldWhats closers closerMakes q4.2.2 y1 _ q7 e8) (cwV 1 hts (gV ml_X1_89 im_X1_wrapAllOn se_X1_wrapAllOn in_X1 co_X1_wrapAllOn) rfl rfl rfl (by decide +kernel) ⟨Nat.le_of_ble_eq_true rfl, Nat.le_of_ble_eq_true rfl⟩) (cP_V hK hP hD [0, 1, 2, 3, 4, 5, 6, 7, 8, 9, 10, 11, 12, 13, 14, 15, 16, 17, 18, 19, 20] rfl rfl 0 rfl rfl) rfl rfl hl.1 rfl (lv_room (Nat.le_of_ble_eq_true rfl)) dX1_makeAnew_116 ⟨Nat.zero_le _, Nat.zero_le _⟩) hP hD hS hA [0, 1, 2, 3, 4, 5, 6, 7, 8, 9, 10, 11, 12, 13, 14, 15, 16, 17, 18, 19, 20] rfl [(true, 0), (true, 1), (true, 2), (true, 3), (true, 4), (true, 5), (true, 6), (true, 7), (true, 8), (true, 9), (true, 10), (true, 11), (true, 12), (true, 13), (true, 14), (true, 15), (true, 16), (true, 17), (true, 18), (true, 19), (true, 20)] rfl rfl rfl (fun H locs hP hD hS => ?_)
            refine lv_iload hx hb dX1_makeAnew_119 (lv_at hl 0 rfl) ?_
            obtain rfl := Option.some.inj h
            exact e_i hx hb hr hlocks hP hS dX1_makeAnew_121
          · have h := (if_pos c6).symm.trans h
            refine lv_aload_n hx hb dX1_makeAnew_109 rfl (lv_at hl 1 rfl) ?_
            refine lv_iload_n hx hb dX1_makeAnew_110 rfl (lv_at hl 2 rfl) ?_
            obtain ⟨q9, e10, h⟩ := ob h
            refine fr_v (M := (houseW cyI h0 t0 t1 t2 t3 t4 t5 t6 t7 t8 w0 w1 w2 w3 w4 w5 w6 w7 w8 w9 w10 mostWear keys boxes liveKeys liveBoxes parents q4.1 q4.2.1 keysOfBoxes number heldKeys heldWhats closers closerMakes q4.2.2)) (M' := (houseW cyI h0 t0 t1 t2 t3 t4 t5 t6 t7 t8 w0 w1 w2 w3 w4 w5 w6 w7 w8 w9 w10 mostWear keys boxes liveKeys liveBoxes parents q4.1 q9.1 keysOfBoxes q9.2.1 q9.2.2.1 q9.2.2.2.1 q9.2.2.2.2.1 q9.2.2.2.2.2.1 q9.2.2.2.2.2.2)) (L' := (houseW cyI h0 t0 t1 t2 t3 t4 t5 t6 t7 t8 w0 w1 w2 w3 w4 w5 w6 w7 w8 w9 w10 mostWear keys boxes liveKeys liveBoxes parents q4.1 q9.1 keysOfBoxes q9.2.1 q9.2.2.1 q9.2.2.2.1 q9.2.2.2.2.1 q9.2.2.2.2.2.1 q9.2.2.2.2.2.2)) (va_runV (As := [.int y1]) (rest := []) ⟨hx, hb, hml, hown, hts⟩ (mX1_wrapKey l dC dI cyI cyO cyL h0 t0 t1 t2 t3 t4 t5 t6 t7 t8 w0 w1 w2 w3 w4 w5 w6 w7 w8 w9 w10 mostWear keys boxes liveKeys liveBoxes parents q4.1 q4.2.1 keysOfBoxes number heldKeys heldWhats closers closerMakes q4.2.2 y1 _ q9 e10) (cwV 1 hts (gV ml_X1_46 im_X1_wrapKey se_X1_wrapKey in_X1 co_X1_wrapKey) rfl rfl rfl (by decide +kernel) ⟨Nat.le_of_ble_eq_true rfl, Nat.le_of_ble_eq_true rfl⟩) (cP_V hK hP hD [0, 1, 2, 3, 4, 5, 6, 7, 8, 9, 10, 11, 12, 13, 14, 15, 16, 17, 18, 19, 20] rfl rfl 0 rfl rfl) rfl rfl hl.1 rfl (lv_room (Nat.le_of_ble_eq_true rfl)) dX1_makeAnew_111 ⟨Nat.zero_le _, Nat.zero_le _⟩) hP hD hS hA [0, 1, 2, 3, 4, 5, 6, 7, 8, 9, 10, 11, 12, 13, 14, 15, 16, 17, 18, 19, 20] rfl [(true, 0), (true, 1), (true, 2), (true, 3), (true, 4), (true, 5), (true, 6), (true, 7), (true, 8), (true, 9), (true, 10), (true, 11), (true, 12), (true, 13), (true, 14), (true, 15), (true, 16), (true, 17), (true, 18), (true, 19), (true, 20)] rfl rfl rfl (fun H locs hP hD hS => ?_)
            refine lv_aload_n hx hb dX1_makeAnew_114 rfl (lv_at hl 1 rfl) ?_
            refine lv_iload_n hx hb dX1_makeAnew_115 rfl (lv_at hl 2 rfl) ?_
            obtain ⟨q11, e12, h⟩ := ob h
            refine fr_v (M := (houseW cyI h0 t0 t1 t2 t3 t4 t5 t6 t7 t8 w0 w1 w2 w3 w4 w5 w6 w7 w8 w9 w10 mostWear keys boxes liveKeys liveBoxes parents q4.1 q9.1 keysOfBoxes q9.2.1 q9.2.2.1 q9.2.2.2.1 q9.2.2.2.2.1 q9.2.2.2.2.2.1 q9.2.2.2.2.2.2)) (M' := (houseW cyI h0 t0 t1 t2 t3 t4 t5 t6 t7 t8 w0 w1 w2 w3 w4 w5 w6 w7 w8 w9 w10 mostWear keys boxes liveKeys liveBoxes parents q4.1 q11.1 keysOfBoxes q11.2.1 q11.2.2.1 q11.2.2.2.1 q11.2.2.2.2.1 q11.2.2.2.2.2.1 q11.2.2.2.2.2.2)) (L' := (houseW cyI h0 t0 t1 t2 t3 t4 t5 t6 t7 t8 w0 w1 w2 w3 w4 w5 w6 w7 w8 w9 w10 mostWear keys boxes liveKeys liveBoxes parents q4.1 q11.1 keysOfBoxes q11.2.1 q11.2.2.1 q11.2.2.2.1 q11.2.2.2.2.1 q11.2.2.2.2.2.1 q11.2.2.2.2.2.2)) (va_runV (As := [.int y1]) (rest := []) ⟨hx, hb, hml, hown, hts⟩ (mX1_wrapAllOn l dC dI cyI cyO cyL h0 t0 t1 t2 t3 t4 t5 t6 t7 t8 w0 w1 w2 w3 w4 w5 w6 w7 w8 w9 w10 mostWear keys boxes liveKeys liveBoxes parents q4.1 q9.1 keysOfBoxes q9.2.1 q9.2.2.1 q9.2.2.2.1 q9.2.2.2.2.1 q9.2.2.2.2.2.1 q9.2.2.2.2.2.2 y1 _ q11 e12) (cwV 1 hts (gV ml_X1_89 im_X1_wrapAllOn se_X1_wrapAllOn in_X1 co_X1_wrapAllOn) rfl rfl rfl (by decide +kernel) ⟨Nat.le_of_ble_eq_true rfl, Nat.le_of_ble_eq_true rfl⟩) (cP_V hK hP hD [0, 1, 2, 3, 4, 5, 6, 7, 8, 9, 10, 11, 12, 13, 14, 15, 16, 17, 18, 19, 20] rfl rfl 0 rfl rfl) rfl rfl hl.1 rfl (lv_room (Nat.le_of_ble_eq_true rfl)) dX1_makeAnew_116 ⟨Nat.zero_le _, Nat.zero_le _⟩) hP hD hS hA [0, 1, 2, 3, 4, 5, 6, 7, 8, 9, 10, 11, 12, 13, 14, 15, 16, 17, 18, 19, 20] rfl [(true, 0), (true, 1), (true, 2), (true, 3), (true, 4), (true, 5), (true, 6), (true, 7), (true, 8), (true, 9), (true, 10), (true, 11), (true, 12), (true, 13), (true, 14), (true, 15), (true, 16), (true, 17), (true, 18), (true, 19), (true, 20)] rfl rfl rfl (fun H locs hP hD hS => ?_)
            refine lv_iload hx hb dX1_makeAnew_119 (lv_at hl 0 rfl) ?_
            obtain rfl := Option.some.inj h
            exact e_i hx hb hr hlocks hP hS dX1_makeAnew_121
        · have h := (if_neg c3).symm.trans h
          refine lv_bipush (v := (-5)) hx hb dX1_makeAnew_94 (by decide) ?_
          obtain rfl := Option.some.inj h
          exact e_i hx hb hr hlocks hP hS dX1_makeAnew_96
      · have h := (if_pos c2).symm.trans h
        refine lv_aload_n hx hb dX1_makeAnew_65 rfl (lv_at hl 1 rfl) ?_
        refine va_get (D := (dC, dI)) (ci := 1) (v := .ref t0) (C := RX1) (T := TX1) (N := 2) hx hb hts (fun w h9 => gb_mem (lay_X1 w h9)) hown hK.1 hP 0 rfl rfl 0 (by decide) (hts _ (gb_mem fl_X1_12)) (fun _ h9 => h9) rfl dX1_makeAnew_66 ?_
        refine lv_aload_n hx hb dX1_makeAnew_69 rfl (lv_at hl 1 rfl) ?_
        refine va_get (D := (dC, dI)) (ci := 1) (v := .ref t0) (C := RX1) (T := TX1) (N := 2) hx hb hts (fun w h9 => gb_mem (lay_X1 w h9)) hown hK.1 hP 0 rfl rfl 0 (by decide) (hts _ (gb_mem fl_X1_12)) (fun _ h9 => h9) rfl dX1_makeAnew_70 ?_
        refine lv_iload_n hx hb dX1_makeAnew_73 rfl (lv_at hl 2 rfl) ?_
        refine fr_ir (M := (treeW cyI t0 t1 t2 t3 t4 t5 t6 t7 t8 mostWear keys boxes liveKeys liveBoxes parents makes wears keysOfBoxes)) (va_runV (As := [.int y1]) (rest := [.ref t0]) ⟨hx, hb, hml, hown, hts⟩ (mX5_parentOf l dC dI cyI cyO cyL t0 t1 t2 t3 t4 t5 t6 t7 t8 mostWear keys boxes liveKeys liveBoxes parents makes wears keysOfBoxes y1 _ (fX5_parentOf parents y1) rfl) (cwV 1 hts (gV ml_X1_83 im_X5_parentOf se_X5_parentOf in_X5 co_X5_parentOf) rfl rfl rfl (by decide +kernel) ⟨Nat.le_of_ble_eq_true rfl, Nat.le_of_ble_eq_true rfl⟩) (cP_V hK hP hD [1, 2, 3, 4, 5, 6, 7, 8, 9] rfl rfl 1 rfl rfl) rfl rfl hl.1 rfl (lv_room (Nat.le_of_ble_eq_true rfl)) dX1_makeAnew_74 ⟨Nat.zero_le _, Nat.zero_le _⟩) hP hD hS hA [1, 2, 3, 4, 5, 6, 7, 8, 9] rfl (fun H locs hP hS => ?_)
        refine fr_ir (M := (treeW cyI t0 t1 t2 t3 t4 t5 t6 t7 t8 mostWear keys boxes liveKeys liveBoxes parents makes wears keysOfBoxes)) (va_runV (As := [.int (fX5_parentOf parents y1)]) (rest := []) ⟨hx, hb, hml, hown, hts⟩ (mX5_leftToClose l dC dI cyI cyO cyL t0 t1 t2 t3 t4 t5 t6 t7 t8 mostWear keys boxes liveKeys liveBoxes parents makes wears keysOfBoxes (fX5_parentOf parents y1) _ (fX5_leftToClose mostWear wears (fX5_parentOf parents y1)) rfl) (cwV 1 hts (gV ml_X1_39 im_X5_leftToClose se_X5_leftToClose in_X5 co_X5_leftToClose) rfl rfl rfl (by decide +kernel) ⟨Nat.le_of_ble_eq_true rfl, Nat.le_of_ble_eq_true rfl⟩) (cP_V hK hP hD [1, 2, 3, 4, 5, 6, 7, 8, 9] rfl rfl 1 rfl rfl) rfl rfl hl.1 rfl (lv_room (Nat.le_of_ble_eq_true rfl)) dX1_makeAnew_77 ⟨Nat.zero_le _, Nat.zero_le _⟩) hP hD hS hA [1, 2, 3, 4, 5, 6, 7, 8, 9] rfl (fun H locs hP hS => ?_)
        refine lv_if_eq (tgt := 94) hx hb dX1_makeAnew_80 (by decide) (fun c13 => ?_) (fun c13 => ?_)
        · have h := (if_pos c13).symm.trans h
          refine lv_bipush (v := (-5)) hx hb dX1_makeAnew_94 (by decide) ?_
          obtain rfl := Option.some.inj h
          exact e_i hx hb hr hlocks hP hS dX1_makeAnew_96
        · have h := (if_neg c13).symm.trans h
          refine lv_iload_n hx hb dX1_makeAnew_83 rfl (lv_at hl 4 rfl) ?_
          refine lv_aload_n hx hb dX1_makeAnew_84 rfl (lv_at hl 1 rfl) ?_
          refine va_get (D := (dC, dI)) (ci := 1) (v := .ref t0) (C := RX1) (T := TX1) (N := 2) hx hb hts (fun w h9 => gb_mem (lay_X1 w h9)) hown hK.1 hP 0 rfl rfl 0 (by decide) (hts _ (gb_mem fl_X1_12)) (fun _ h9 => h9) rfl dX1_makeAnew_85 ?_
          refine va_getN (D := (dC, dI)) (ci := 5) (v := .int mostWear) (C := RX5) (T := TX5) (N := 9) hx hb hts (fun w h9 => gb_mem (lay_X5 w h9)) hown hK.1 hP 1 rfl rfl 0 (by decide) (va_Nw.use rfl (hK.2 _ nl_X1_25)) (fun _ h9 => h9) rfl dX1_makeAnew_88 ?_
          refine lv_icmp_le (tgt := 97) hx hb dX1_makeAnew_91 (by decide) (fun c14 => ?_) (fun c14 => ?_)
          · have h := (if_pos c14).symm.trans h
            refine lv_aload_n hx hb dX1_makeAnew_97 rfl (lv_at hl 1 rfl) ?_
            refine lv_iload_n hx hb dX1_makeAnew_98 rfl (lv_at hl 2 rfl) ?_
            refine fr_ir (M := ([] : va_W)) (va_runSN (host := "HangingKeys") (As := [.int y1]) (rest := [.ref h0]) ⟨hx, hb, hml, hown, hts⟩ (mX7_setOf l dC dI cyI cyO cyL y1 _ (fX7_setOf y1) rfl) ⟨va_cnB 1 hts (gW co_X7_setOf) rfl rfl rfl (hK.2 _ nl_X1_66) (hts _ (gb_mem in_X7)) (by decide +kernel) ⟨Nat.le_of_ble_eq_true rfl, Nat.le_of_ble_eq_true rfl⟩, hts _ (gb_mem st_X7_setOf), trivial⟩ (cP_S hK hP hD [] rfl rfl) rfl rfl hl.1 rfl (lv_room (Nat.le_of_ble_eq_true rfl)) dX1_makeAnew_99 ⟨Nat.zero_le _, Nat.zero_le _⟩) hP hD hS hA [] rfl (fun H locs hP hS => ?_)
            obtain ⟨q15, e16, h⟩ := ob h
            refine fr_v (M := (houseW cyI h0 t0 t1 t2 t3 t4 t5 t6 t7 t8 w0 w1 w2 w3 w4 w5 w6 w7 w8 w9 w10 mostWear keys boxes liveKeys liveBoxes parents makes wears keysOfBoxes number heldKeys heldWhats closers closerMakes stands)) (M' := (houseW cyI h0 t0 t1 t2 t3 t4 t5 t6 t7 t8 w0 w1 w2 w3 w4 w5 w6 w7 w8 w9 w10 mostWear keys boxes liveKeys liveBoxes parents q15.1 q15.2.1 keysOfBoxes number heldKeys heldWhats closers closerMakes q15.2.2)) (L' := (houseW cyI h0 t0 t1 t2 t3 t4 t5 t6 t7 t8 w0 w1 w2 w3 w4 w5 w6 w7 w8 w9 w10 mostWear keys boxes liveKeys liveBoxes parents q15.1 q15.2.1 keysOfBoxes number heldKeys heldWhats closers closerMakes q15.2.2)) (va_runV (As := [.int (fX7_setOf y1)]) (rest := []) ⟨hx, hb, hml, hown, hts⟩ (mX1_startNextMakes l dC dI cyI cyO cyL h0 t0 t1 t2 t3 t4 t5 t6 t7 t8 w0 w1 w2 w3 w4 w5 w6 w7 w8 w9 w10 mostWear keys boxes liveKeys liveBoxes parents makes wears keysOfBoxes number heldKeys heldWhats closers closerMakes stands (fX7_setOf y1) _ q15 e16) (cwV 1 hts (gV ml_X1_86 im_X1_startNextMakes se_X1_startNextMakes in_X1 co_X1_startNextMakes) rfl rfl rfl (by decide +kernel) ⟨Nat.le_of_ble_eq_true rfl, Nat.le_of_ble_eq_true rfl⟩) (cP_V hK hP hD [0, 1, 2, 3, 4, 5, 6, 7, 8, 9, 10, 11, 12, 13, 14, 15, 16, 17, 18, 19, 20] rfl rfl 0 rfl rfl) rfl rfl hl.1 rfl (lv_room (Nat.le_of_ble_eq_true rfl)) dX1_makeAnew_102 ⟨Nat.zero_le _, Nat.zero_le _⟩) hP hD hS hA [0, 1, 2, 3, 4, 5, 6, 7, 8, 9, 10, 11, 12, 13, 14, 15, 16, 17, 18, 19, 20] rfl [(true, 0), (true, 1), (true, 2), (true, 3), (true, 4), (true, 5), (true, 6), (true, 7), (true, 8), (true, 9), (true, 10), (true, 11), (true, 12), (true, 13), (true, 14), (true, 15), (true, 16), (true, 17), (true, 18), (true, 19), (true, 20)] rfl rfl rfl (fun H locs hP hD hS => ?_)
            refine lv_iload_n hx hb dX1_makeAnew_105 rfl (lv_at hl 3 rfl) ?_
            refine lv_if_ne (tgt := 114) hx hb dX1_makeAnew_106 (by decide) (fun c17 => ?_) (fun c17 => ?_)
            · have h := (if_neg c17).symm.trans h
              refine lv_aload_n hx hb dX1_makeAnew_114 rfl (lv_at hl 1 rfl) ?_
              refine lv_iload_n hx hb dX1_makeAnew_115 rfl (lv_at hl 2 rfl) ?_
              obtain ⟨q18, e19, h⟩ := ob h
              refine fr_v (M := (houseW cyI h0 t0 t1 t2 t3 t4 t5 t6 t7 t8 w0 w1 w2 w3 w4 w5 w6 w7 w8 w9 w10 mostWear keys boxes liveKeys liveBoxes parents q15.1 q15.2.1 keysOfBoxes number heldKeys heldWhats closers closerMakes q15.2.2)) (M' := (houseW cyI h0 t0 t1 t2 t3 t4 t5 t6 t7 t8 w0 w1 w2 w3 w4 w5 w6 w7 w8 w9 w10 mostWear keys boxes liveKeys liveBoxes parents q15.1 q18.1 keysOfBoxes q18.2.1 q18.2.2.1 q18.2.2.2.1 q18.2.2.2.2.1 q18.2.2.2.2.2.1 q18.2.2.2.2.2.2)) (L' := (houseW cyI h0 t0 t1 t2 t3 t4 t5 t6 t7 t8 w0 w1 w2 w3 w4 w5 w6 w7 w8 w9 w10 mostWear keys boxes liveKeys liveBoxes parents q15.1 q18.1 keysOfBoxes q18.2.1 q18.2.2.1 q18.2.2.2.1 q18.2.2.2.2.1 q18.2.2.2.2.2.1 q18.2.2.2.2.2.2)) (va_runV (As := [.int y1]) (rest := []) ⟨hx, hb, hml, hown, hts⟩ (mX1_wrapAllOn l dC dI cyI cyO cyL h0 t0 t1 t2 t3 t4 t5 t6 t7 t8 w0 w1 w2 w3 w4 w5 w6 w7 w8 w9 w10 mostWear keys boxes liveKeys liveBoxes parents q15.1 q15.2.1 keysOfBoxes number heldKeys heldWhats closers closerMakes q15.2.2 y1 _ q18 e19) (cwV 1 hts (gV ml_X1_89 im_X1_wrapAllOn se_X1_wrapAllOn in_X1 co_X1_wrapAllOn) rfl rfl rfl (by decide +kernel) ⟨Nat.le_of_ble_eq_true rfl, Nat.le_of_ble_eq_true rfl⟩) (cP_V hK hP hD [0, 1, 2, 3, 4, 5, 6, 7, 8, 9, 10, 11, 12, 13, 14, 15, 16, 17, 18, 19, 20] rfl rfl 0 rfl rfl) rfl rfl hl.1 rfl (lv_room (Nat.le_of_ble_eq_true rfl)) dX1_makeAnew_116 ⟨Nat.zero_le _, Nat.zero_le _⟩) hP hD hS hA [0, 1, 2, 3, 4, 5, 6, 7, 8, 9, 10, 11, 12, 13, 14, 15, 16, 17, 18, 19, 20] rfl [(true, 0), (true, 1), (true, 2), (true, 3), (true, 4), (true, 5), (true, 6), (true, 7), (true, 8), (true, 9), (true, 10), (true, 11), (true, 12), (true, 13), (true, 14), (true, 15), (true, 16), (true, 17), (true, 18), (true, 19), (true, 20)] rfl rfl rfl (fun H locs hP hD hS => ?_)
              refine lv_iload hx hb dX1_makeAnew_119 (lv_at hl 0 rfl) ?_
              obtain rfl := Option.some.inj h
              exact e_i hx hb hr hlocks hP hS dX1_makeAnew_121
            · have h := (if_pos c17).symm.trans h
              refine lv_aload_n hx hb dX1_makeAnew_109 rfl (lv_at hl 1 rfl) ?_
              refine lv_iload_n hx hb dX1_makeAnew_110 rfl (lv_at hl 2 rfl) ?_
              obtain ⟨q20, e21, h⟩ := ob h
              refine fr_v (M := (houseW cyI h0 t0 t1 t2 t3 t4 t5 t6 t7 t8 w0 w1 w2 w3 w4 w5 w6 w7 w8 w9 w10 mostWear keys boxes liveKeys liveBoxes parents q15.1 q15.2.1 keysOfBoxes number heldKeys heldWhats closers closerMakes q15.2.2)) (M' := (houseW cyI h0 t0 t1 t2 t3 t4 t5 t6 t7 t8 w0 w1 w2 w3 w4 w5 w6 w7 w8 w9 w10 mostWear keys boxes liveKeys liveBoxes parents q15.1 q20.1 keysOfBoxes q20.2.1 q20.2.2.1 q20.2.2.2.1 q20.2.2.2.2.1 q20.2.2.2.2.2.1 q20.2.2.2.2.2.2)) (L' := (houseW cyI h0 t0 t1 t2 t3 t4 t5 t6 t7 t8 w0 w1 w2 w3 w4 w5 w6 w7 w8 w9 w10 mostWear keys boxes liveKeys liveBoxes parents q15.1 q20.1 keysOfBoxes q20.2.1 q20.2.2.1 q20.2.2.2.1 q20.2.2.2.2.1 q20.2.2.2.2.2.1 q20.2.2.2.2.2.2)) (va_runV (As := [.int y1]) (rest := []) ⟨hx, hb, hml, hown, hts⟩ (mX1_wrapKey l dC dI cyI cyO cyL h0 t0 t1 t2 t3 t4 t5 t6 t7 t8 w0 w1 w2 w3 w4 w5 w6 w7 w8 w9 w10 mostWear keys boxes liveKeys liveBoxes parents q15.1 q15.2.1 keysOfBoxes number heldKeys heldWhats closers closerMakes q15.2.2 y1 _ q20 e21) (cwV 1 hts (gV ml_X1_46 im_X1_wrapKey se_X1_wrapKey in_X1 co_X1_wrapKey) rfl rfl rfl (by decide +kernel) ⟨Nat.le_of_ble_eq_true rfl, Nat.le_of_ble_eq_true rfl⟩) (cP_V hK hP hD [0, 1, 2, 3, 4, 5, 6, 7, 8, 9, 10, 11, 12, 13, 14, 15, 16, 17, 18, 19, 20] rfl rfl 0 rfl rfl) rfl rfl hl.1 rfl (lv_room (Nat.le_of_ble_eq_true rfl)) dX1_makeAnew_111 ⟨Nat.zero_le _, Nat.zero_le _⟩) hP hD hS hA [0, 1, 2, 3, 4, 5, 6, 7, 8, 9, 10, 11, 12, 13, 14, 15, 16, 17, 18, 19, 20] rfl [(true, 0), (true, 1), (true, 2), (true, 3), (true, 4), (true, 5), (true, 6), (true, 7), (true, 8), (true, 9), (true, 10), (true, 11), (true, 12), (true, 13), (true, 14), (true, 15), (true, 16), (true, 17), (true, 18), (true, 19), (true, 20)] rfl rfl rfl (fun H locs hP hD hS => ?_)
              refine lv_aload_n hx hb dX1_makeAnew_114 rfl (lv_at hl 1 rfl) ?_
              refine lv_iload_n hx hb dX1_makeAnew_115 rfl (lv_at hl 2 rfl) ?_
              obtain ⟨q22, e23, h⟩ := ob h
              refine fr_v (M := (houseW cyI h0 t0 t1 t2 t3 t4 t5 t6 t7 t8 w0 w1 w2 w3 w4 w5 w6 w7 w8 w9 w10 mostWear keys boxes liveKeys liveBoxes parents q15.1 q20.1 keysOfBoxes q20.2.1 q20.2.2.1 q20.2.2.2.1 q20.2.2.2.2.1 q20.2.2.2.2.2.1 q20.2.2.2.2.2.2)) (M' := (houseW cyI h0 t0 t1 t2 t3 t4 t5 t6 t7 t8 w0 w1 w2 w3 w4 w5 w6 w7 w8 w9 w10 mostWear keys boxes liveKeys liveBoxes parents q15.1 q22.1 keysOfBoxes q22.2.1 q22.2.2.1 q22.2.2.2.1 q22.2.2.2.2.1 q22.2.2.2.2.2.1 q22.2.2.2.2.2.2)) (L' := (houseW cyI h0 t0 t1 t2 t3 t4 t5 t6 t7 t8 w0 w1 w2 w3 w4 w5 w6 w7 w8 w9 w10 mostWear keys boxes liveKeys liveBoxes parents q15.1 q22.1 keysOfBoxes q22.2.1 q22.2.2.1 q22.2.2.2.1 q22.2.2.2.2.1 q22.2.2.2.2.2.1 q22.2.2.2.2.2.2)) (va_runV (As := [.int y1]) (rest := []) ⟨hx, hb, hml, hown, hts⟩ (mX1_wrapAllOn l dC dI cyI cyO cyL h0 t0 t1 t2 t3 t4 t5 t6 t7 t8 w0 w1 w2 w3 w4 w5 w6 w7 w8 w9 w10 mostWear keys boxes liveKeys liveBoxes parents q15.1 q20.1 keysOfBoxes q20.2.1 q20.2.2.1 q20.2.2.2.1 q20.2.2.2.2.1 q20.2.2.2.2.2.1 q20.2.2.2.2.2.2 y1 _ q22 e23) (cwV 1 hts (gV ml_X1_89 im_X1_wrapAllOn se_X1_wrapAllOn in_X1 co_X1_wrapAllOn) rfl rfl rfl (by decide +kernel) ⟨Nat.le_of_ble_eq_true rfl, Nat.le_of_ble_eq_true rfl⟩) (cP_V hK hP hD [0, 1, 2, 3, 4, 5, 6, 7, 8, 9, 10, 11, 12, 13, 14, 15, 16, 17, 18, 19, 20] rfl rfl 0 rfl rfl) rfl rfl hl.1 rfl (lv_room (Nat.le_of_ble_eq_true rfl)) dX1_makeAnew_116 ⟨Nat.zero_le _, Nat.zero_le _⟩) hP hD hS hA [0, 1, 2, 3, 4, 5, 6, 7, 8, 9, 10, 11, 12, 13, 14, 15, 16, 17, 18, 19, 20] rfl [(true, 0), (true, 1), (true, 2), (true, 3), (true, 4), (true, 5), (true, 6), (true, 7), (true, 8), (true, 9), (true, 10), (true, 11), (true, 12), (true, 13), (true, 14), (true, 15), (true, 16), (true, 17), (true, 18), (true, 19), (true, 20)] rfl rfl rfl (fun H locs hP hD hS => ?_)
              refine lv_iload hx hb dX1_makeAnew_119 (lv_at hl 0 rfl) ?_
              obtain rfl := Option.some.inj h
              exact e_i hx hb hr hlocks hP hS dX1_makeAnew_121
          · have h := (if_neg c14).symm.trans h
            refine lv_bipush (v := (-5)) hx hb dX1_makeAnew_94 (by decide) ?_
            obtain rfl := Option.some.inj h
            exact e_i hx hb hr hlocks hP hS dX1_makeAnew_96
    · have h := (if_pos c1).symm.trans h
      refine lv_bipush (v := (-4)) hx hb dX1_makeAnew_58 (by decide) ?_
      obtain rfl := Option.some.inj h
      exact e_i hx hb hr hlocks hP hS dX1_makeAnew_60
  have hl := lv_entry ([.ref h0, .int x1]) (n := 5) (Nat.le_of_ble_eq_true rfl)
  rw [lg_entry_eq]
  generalize (lg_sl ([.ref h0, .int x1]) ++ List.replicate (5 - (lg_sl ([.ref h0, .int x1])).length) Slot.unset).toArray = ls at hl ⊢
  have hl : lv_has ls 5 [(0, .ref h0), (1, .int x1)] := hl
  unfold fX1_makeAnew at h
  refine lv_aload_n hx hb dX1_makeAnew_0 rfl (lv_at hl 0 rfl) ?_
  refine va_get (D := (dC, dI)) (ci := 1) (v := .ref t0) (C := RX1) (T := TX1) (N := 2) hx hb hts (fun w h9 => gb_mem (lay_X1 w h9)) hown hK.1 hP 0 rfl rfl 0 (by decide) (hts _ (gb_mem fl_X1_12)) (fun _ h9 => h9) rfl dX1_makeAnew_1 ?_
  refine lv_iload_n hx hb dX1_makeAnew_4 rfl (lv_at hl 1 rfl) ?_
  refine fr_ir (M := (treeW cyI t0 t1 t2 t3 t4 t5 t6 t7 t8 mostWear keys boxes liveKeys liveBoxes parents makes wears keysOfBoxes)) (va_runV (As := [.int x1]) (rest := []) ⟨hx, hb, hml, hown, hts⟩ (mX5_isLiveKey l dC dI cyI cyO cyL t0 t1 t2 t3 t4 t5 t6 t7 t8 mostWear keys boxes liveKeys liveBoxes parents makes wears keysOfBoxes x1 _ (fX5_isLiveKey liveKeys x1) rfl) (cwV 1 hts (gV ml_X1_29 im_X5_isLiveKey se_X5_isLiveKey in_X5 co_X5_isLiveKey) rfl rfl rfl (by decide +kernel) ⟨Nat.le_of_ble_eq_true rfl, Nat.le_of_ble_eq_true rfl⟩) (cP_V hK hP hD [1, 2, 3, 4, 5, 6, 7, 8, 9] rfl rfl 1 rfl rfl) rfl rfl hl.1 rfl (lv_room (Nat.le_of_ble_eq_true rfl)) dX1_makeAnew_5 ⟨Nat.zero_le _, Nat.zero_le _⟩) hP hD hS hA [1, 2, 3, 4, 5, 6, 7, 8, 9] rfl (fun H locs hP hS => ?_)
  refine lv_if_ne (tgt := 13) hx hb dX1_makeAnew_8 (by decide) (fun c24 => ?_) (fun c24 => ?_)
  · have h := (if_neg c24).symm.trans h
    refine lv_aload_n hx hb dX1_makeAnew_13 rfl (lv_at hl 0 rfl) ?_
    refine va_get (D := (dC, dI)) (ci := 1) (v := .ref t0) (C := RX1) (T := TX1) (N := 2) hx hb hts (fun w h9 => gb_mem (lay_X1 w h9)) hown hK.1 hP 0 rfl rfl 0 (by decide) (hts _ (gb_mem fl_X1_12)) (fun _ h9 => h9) rfl dX1_makeAnew_14 ?_
    refine lv_iload_n hx hb dX1_makeAnew_17 rfl (lv_at hl 1 rfl) ?_
    refine fr_ir (M := (treeW cyI t0 t1 t2 t3 t4 t5 t6 t7 t8 mostWear keys boxes liveKeys liveBoxes parents makes wears keysOfBoxes)) (va_runV (As := [.int x1]) (rest := []) ⟨hx, hb, hml, hown, hts⟩ (mX5_isRoot l dC dI cyI cyO cyL t0 t1 t2 t3 t4 t5 t6 t7 t8 mostWear keys boxes liveKeys liveBoxes parents makes wears keysOfBoxes x1 _ (fX5_isRoot parents x1) rfl) (cwV 1 hts (gV ml_X1_76 im_X5_isRoot se_X5_isRoot in_X5 co_X5_isRoot) rfl rfl rfl (by decide +kernel) ⟨Nat.le_of_ble_eq_true rfl, Nat.le_of_ble_eq_true rfl⟩) (cP_V hK hP hD [1, 2, 3, 4, 5, 6, 7, 8, 9] rfl rfl 1 rfl rfl) rfl rfl hl.1 rfl (lv_room (Nat.le_of_ble_eq_true rfl)) dX1_makeAnew_18 ⟨Nat.zero_le _, Nat.zero_le _⟩) hP hD hS hA [1, 2, 3, 4, 5, 6, 7, 8, 9] rfl (fun H locs hP hS => ?_)
    refine lv_istore_n (lv' := [(2, .int (fX5_isRoot parents x1)), (0, .ref h0), (1, .int x1)]) hx hb dX1_makeAnew_21 rfl hl (by decide) rfl (fun ls hl => ?_)
    refine lv_aload_n hx hb dX1_makeAnew_22 rfl (lv_at hl 1 rfl) ?_
    refine lv_iload_n hx hb dX1_makeAnew_23 rfl (lv_at hl 2 rfl) ?_
    refine fr_ir (M := ([] : va_W)) (va_runSN (host := "HangingKeys") (As := [.int x1]) (rest := [.ref h0]) ⟨hx, hb, hml, hown, hts⟩ (mX7_setOf l dC dI cyI cyO cyL x1 _ (fX7_setOf x1) rfl) ⟨va_cnB 1 hts (gW co_X7_setOf) rfl rfl rfl (hK.2 _ nl_X1_66) (hts _ (gb_mem in_X7)) (by decide +kernel) ⟨Nat.le_of_ble_eq_true rfl, Nat.le_of_ble_eq_true rfl⟩, hts _ (gb_mem st_X7_setOf), trivial⟩ (cP_S hK hP hD [] rfl rfl) rfl rfl hl.1 rfl (lv_room (Nat.le_of_ble_eq_true rfl)) dX1_makeAnew_24 ⟨Nat.zero_le _, Nat.zero_le _⟩) hP hD hS hA [] rfl (fun H locs hP hS => ?_)
    refine lv_iconst (v := 0) hx hb dX1_makeAnew_27 (by decide) ?_
    refine lv_iconst (v := 0) hx hb dX1_makeAnew_28 (by decide) ?_
    obtain ⟨q25, e26, h⟩ := ob h
    refine fr_ir (M := (houseW cyI h0 t0 t1 t2 t3 t4 t5 t6 t7 t8 w0 w1 w2 w3 w4 w5 w6 w7 w8 w9 w10 mostWear keys boxes liveKeys liveBoxes parents makes wears keysOfBoxes number heldKeys heldWhats closers closerMakes stands)) (va_runV (As := [.int (fX7_setOf x1), .int 0, .int 0]) (rest := []) ⟨hx, hb, hml, hown, hts⟩ (mX1_hangingWithout l dC dI cyI cyO cyL h0 t0 t1 t2 t3 t4 t5 t6 t7 t8 w0 w1 w2 w3 w4 w5 w6 w7 w8 w9 w10 mostWear keys boxes liveKeys liveBoxes parents makes wears keysOfBoxes number heldKeys heldWhats closers closerMakes stands (fX7_setOf x1) 0 0 _ q25 e26) (cwV 3 hts (gV ml_X1_79 im_X1_hangingWithout se_X1_hangingWithout in_X1 co_X1_hangingWithout) rfl rfl rfl (by decide +kernel) ⟨Nat.le_of_ble_eq_true rfl, Nat.le_of_ble_eq_true rfl⟩) (cP_V hK hP hD [0, 1, 2, 3, 4, 5, 6, 7, 8, 9, 10, 11, 12, 13, 14, 15, 16, 17, 18, 19, 20] rfl rfl 0 rfl rfl) rfl rfl hl.1 rfl (lv_room (Nat.le_of_ble_eq_true rfl)) dX1_makeAnew_29 ⟨Nat.zero_le _, Nat.zero_le _⟩) hP hD hS hA [0, 1, 2, 3, 4, 5, 6, 7, 8, 9, 10, 11, 12, 13, 14, 15, 16, 17, 18, 19, 20] rfl (fun H locs hP hS => ?_)
    refine lv_istore_n (lv' := [(3, .int q25), (2, .int (fX5_isRoot parents x1)), (0, .ref h0), (1, .int x1)]) hx hb dX1_makeAnew_32 rfl hl (by decide) rfl (fun ls hl => ?_)
    refine lv_iload_n hx hb dX1_makeAnew_33 rfl (lv_at hl 1 rfl) ?_
    refine lv_if_eq (tgt := 41) hx hb dX1_makeAnew_34 (by decide) (fun c27 => ?_) (fun c27 => ?_)
    · have h := (if_pos c27).symm.trans h
      refine lv_iload_n hx hb dX1_makeAnew_41 rfl (lv_at hl 0 rfl) ?_
      refine lv_iconst (v := 1) hx hb dX1_makeAnew_42 (by decide) ?_
      refine lv_iadd hx hb dX1_makeAnew_43 ?_
      exact kB44 mostWear keys boxes liveKeys liveBoxes parents makes wears keysOfBoxes number heldKeys heldWhats closers closerMakes stands x1 (fX5_isRoot parents x1) q25 (q25 + 1) h _ _ hP hD hS ls (lv_sub hl [2, 3, 1, 0] rfl)
    · have h := (if_neg c27).symm.trans h
      refine lv_iload_n hx hb dX1_makeAnew_37 rfl (lv_at hl 0 rfl) ?_
      refine lv_goto (tgt := 44) hx hb dX1_makeAnew_38 (by decide) ?_
      exact kB44 mostWear keys boxes liveKeys liveBoxes parents makes wears keysOfBoxes number heldKeys heldWhats closers closerMakes stands x1 (fX5_isRoot parents x1) q25 q25 h _ _ hP hD hS ls (lv_sub hl [2, 3, 1, 0] rfl)
  · have h := (if_pos c24).symm.trans h
    refine lv_iconst (v := (-1)) hx hb dX1_makeAnew_11 (by decide) ?_
    obtain rfl := Option.some.inj h
    exact e_i hx hb hr hlocks hP hS dX1_makeAnew_12
noncomputable def fX1_canWrapAgain_b3 : Nat → Int32 → Int32 → Int32 → Int32 → Int32 → (Nat → Int32) → (Nat → Int32) → Int32 → Int32 → Int32 → Int32 → Option (Int32)
  | 0, _, _, _, _, _, _, _, _, _, _, _ => none
  | fuel + 1, mostWear, keys, boxes, liveKeys, liveBoxes, parents, keysOfBoxes, y1, y2, y3, y4 =>
  (if 20 ≤ y4 then (some 1) else (if (fX7_has y1 y4) = 0 then fX1_canWrapAgain_b3 fuel mostWear keys boxes liveKeys liveBoxes parents keysOfBoxes y1 y2 y3 (y4 + 1) else ((fX1_hangingWithout keys boxes liveKeys liveBoxes parents keysOfBoxes (fX7_setOf y4) y2 y3).bind fun q3 => (if q3 ≤ mostWear then fX1_canWrapAgain_b3 fuel mostWear keys boxes liveKeys liveBoxes parents keysOfBoxes y1 y2 y3 (y4 + 1) else (some 0)))))

noncomputable def fX1_canWrapAgain (mostWear : Int32) (keys : Int32) (boxes : Int32) (liveKeys : Int32) (liveBoxes : Int32) (parents : Nat → Int32) (keysOfBoxes : Nat → Int32) (x1 : Int32) (x2 : Int32) (x3 : Int32) : Option (Int32) :=
  fX1_canWrapAgain_b3 6000 mostWear keys boxes liveKeys liveBoxes parents keysOfBoxes x1 x2 x3 0
set_option maxHeartbeats 1000000 in
set_option maxRecDepth 100000 in
theorem mX1_canWrapAgain (l : Launch) (dC : Nat → ClassId) (dI : Nat → Nat → Nat) (cyI cyO cyL : ClassId) (h0 t0 t1 t2 t3 t4 t5 t6 t7 t8 w0 w1 w2 w3 w4 w5 w6 w7 w8 w9 w10 : Nat) (mostWear : Int32) (keys : Int32) (boxes : Int32) (liveKeys : Int32) (liveBoxes : Int32) (parents : Nat → Int32) (makes : Nat → Int32) (wears : Nat → Int32) (keysOfBoxes : Nat → Int32) (number : Int32) (heldKeys : Nat → Int32) (heldWhats : Nat → Int32) (closers : Nat → Int32) (closerMakes : Nat → Int32) (stands : Nat → Int32) (x1 : Int32) (x2 : Int32) (x3 : Int32) (sz : Nat) (res : Int32) (h : fX1_canWrapAgain mostWear keys boxes liveKeys liveBoxes parents keysOfBoxes x1 x2 x3 = some res) : Met l yX1_canWrapAgain (wsG yX1_canWrapAgain cX1_canWrapAgain 5 (some .boolean)) ({ frames := 3, cells := 0, slots := 0, locals := 67 }) (cP dC dI cyI cyO cyL sz [.ref h0, .int x1, .int x2, .int x3] (houseW cyI h0 t0 t1 t2 t3 t4 t5 t6 t7 t8 w0 w1 w2 w3 w4 w5 w6 w7 w8 w9 w10 mostWear keys boxes liveKeys liveBoxes parents makes wears keysOfBoxes number heldKeys heldWhats closers closerMakes stands)) (cI dC dI res (houseW cyI h0 t0 t1 t2 t3 t4 t5 t6 t7 t8 w0 w1 w2 w3 w4 w5 w6 w7 w8 w9 w10 mostWear keys boxes liveKeys liveBoxes parents makes wears keysOfBoxes number heldKeys heldWhats closers closerMakes stands) (va_A (houseW cyI h0 t0 t1 t2 t3 t4 t5 t6 t7 t8 w0 w1 w2 w3 w4 w5 w6 w7 w8 w9 w10 mostWear keys boxes liveKeys liveBoxes parents makes wears keysOfBoxes number heldKeys heldWhats closers closerMakes stands) sz)) 0 0 (va_A (houseW cyI h0 t0 t1 t2 t3 t4 t5 t6 t7 t8 w0 w1 w2 w3 w4 w5 w6 w7 w8 w9 w10 mostWear keys boxes liveKeys liveBoxes parents makes wears keysOfBoxes number heldKeys heldWhats closers closerMakes stands) sz) := by
  refine Met.ofW (cc := cX1_canWrapAgain) (maxL := 5) (ret := (some .boolean)) (by decide) rfl ?_
  intro p e s m args below meth c s₁ B hml hv
  obtain ⟨rfl, hsz, hP, hK, hD0⟩ := hv
  have hx := B.exec
  have hb := B.bytes
  have hr := B.returns
  have hts := atoms_spec (ws := wsG yX1_canWrapAgain cX1_canWrapAgain 5 (some .boolean)) B.pre
  have hown : s.vm.findClass RX1 = some m.cls := findClass_of_methodNamed B.named
  have hlocks := B.notSynchronized
  subst hsz
  have hD := hD0.self (sz := s.heap.size)
  generalize hAe : va_A (houseW cyI h0 t0 t1 t2 t3 t4 t5 t6 t7 t8 w0 w1 w2 w3 w4 w5 w6 w7 w8 w9 w10 mostWear keys boxes liveKeys liveBoxes parents makes wears keysOfBoxes number heldKeys heldWhats closers closerMakes stands) s.heap.size = A at hD ⊢
  have hA : ∀ q : Nat, s.heap.size ≤ q → A q := fun q h => by rw [← hAe]; exact Or.inr h
  have hS : va_S A s.heap s.heap [] := va_S.rf
  have kB3 : ∀ (fuel : Nat) (mostWear : Int32) (keys : Int32) (boxes : Int32) (liveKeys : Int32) (liveBoxes : Int32) (parents : Nat → Int32) (keysOfBoxes : Nat → Int32) (y1 : Int32) (y2 : Int32) (y3 : Int32) (y4 : Int32), fX1_canWrapAgain_b3 fuel mostWear keys boxes liveKeys liveBoxes parents keysOfBoxes y1 y2 y3 y4 = some res → ∀ (H : Heap) (locs : List Loc), va_P (dC, dI) vwCl (houseW cyI h0 t0 t1 t2 t3 t4 t5 t6 t7 t8 w0 w1 w2 w3 w4 w5 w6 w7 w8 w9 w10 mostWear keys boxes liveKeys liveBoxes parents makes wears keysOfBoxes number heldKeys heldWhats closers closerMakes stands) H → va_D A (houseW cyI h0 t0 t1 t2 t3 t4 t5 t6 t7 t8 w0 w1 w2 w3 w4 w5 w6 w7 w8 w9 w10 mostWear keys boxes liveKeys liveBoxes parents makes wears keysOfBoxes number heldKeys heldWhats closers closerMakes stands) → va_S A s.heap H locs → ∀ ls : Array Slot, lv_has ls 5 [(0, .ref h0), (1, .int y1), (2, .int y2), (3, .int y3), (4, .int y4)] → W p l e (headSpec (wsG yX1_canWrapAgain cX1_canWrapAgain 5 (some .boolean)) ({ frames := 3, cells := 0, slots := 0, locals := 67 })).room s m (([.ref h0, .int x1, .int x2, .int x3] : List Value).toArray) below meth c H locs 0 0 (MQ below (cI dC dI res (houseW cyI h0 t0 t1 t2 t3 t4 t5 t6 t7 t8 w0 w1 w2 w3 w4 w5 w6 w7 w8 w9 w10 mostWear keys boxes liveKeys liveBoxes parents makes wears keysOfBoxes number heldKeys heldWhats closers closerMakes stands) A) ([.ref h0, .int x1, .int x2, .int x3] : List Value).toArray s 0 0 A) (F0 m 3 ls []) := by
    intro fuel
    induction fuel with
    | zero => intro mostWear keys boxes liveKeys liveBoxes parents keysOfBoxes y1 y2 y3 y4 h; rw [fX1_canWrapAgain_b3] at h; cases h
    | succ fuel ih =>
      intro mostWear keys boxes liveKeys liveBoxes parents keysOfBoxes y1 y2 y3 y4 h H locs hP hD hS ls hl
      rw [fX1_canWrapAgain_b3] at h
      refine lv_iload hx hb dX1_canWrapAgain_3 (lv_at hl 4 rfl) ?_
      refine lv_bipush (v := 20) hx hb dX1_canWrapAgain_5 (by decide) ?_
      refine lv_icmp_ge (tgt := 48) hx hb dX1_canWrapAgain_7 (by decide) (fun c1 => ?_) (fun c1 => ?_)
      · have h := (if_pos c1).symm.trans h
        refine lv_iconst (v := 1) hx hb dX1_canWrapAgain_48 (by decide) ?_
        obtain rfl := Option.some.inj h
        exact e_z (v := 1) hx hb hr hlocks rfl hP hS dX1_canWrapAgain_49
      · have h := (if_neg c1).symm.trans h
        refine lv_iload_n hx hb dX1_canWrapAgain_10 rfl (lv_at hl 1 rfl) ?_
        refine lv_iload hx hb dX1_canWrapAgain_11 (lv_at hl 4 rfl) ?_
        refine fr_ir (M := ([] : va_W)) (va_runSN (host := "HangingKeys") (As := [.int y1, .int y4]) (rest := []) ⟨hx, hb, hml, hown, hts⟩ (mX7_has l dC dI cyI cyO cyL y1 y4 _ (fX7_has y1 y4) rfl) ⟨va_cnB 2 hts (gW co_X7_has) rfl rfl rfl (hK.2 _ nl_X1_115) (hts _ (gb_mem in_X7)) (by decide +kernel) ⟨Nat.le_of_ble_eq_true rfl, Nat.le_of_ble_eq_true rfl⟩, hts _ (gb_mem st_X7_has), trivial⟩ (cP_S hK hP hD [] rfl rfl) rfl rfl hl.1 rfl (lv_room (Nat.le_of_ble_eq_true rfl)) dX1_canWrapAgain_13 ⟨Nat.zero_le _, Nat.zero_le _⟩) hP hD hS hA [] rfl (fun H locs hP hS => ?_)
        refine lv_if_eq (tgt := 42) hx hb dX1_canWrapAgain_16 (by decide) (fun c2 => ?_) (fun c2 => ?_)
        · have h := (if_pos c2).symm.trans h
          refine lv_iinc (v := (y4 + 1)) (lv' := [(4, .int (y4 + 1)), (0, .ref h0), (1, .int y1), (2, .int y2), (3, .int y3)]) hx hb dX1_canWrapAgain_42 hl (k := 4) rfl rfl (by decide) rfl (fun ls hl => ?_)
          refine lv_goto (tgt := 3) hx hb dX1_canWrapAgain_45 (by decide) ?_
          exact ih mostWear keys boxes liveKeys liveBoxes parents keysOfBoxes y1 y2 y3 (y4 + 1) h _ _ hP hD hS ls (lv_sub hl [1, 2, 3, 4, 0] rfl)
        · have h := (if_neg c2).symm.trans h
          refine lv_aload_n hx hb dX1_canWrapAgain_19 rfl (lv_at hl 0 rfl) ?_
          refine lv_iload hx hb dX1_canWrapAgain_20 (lv_at hl 4 rfl) ?_
          refine fr_ir (M := ([] : va_W)) (va_runSN (host := "HangingKeys") (As := [.int y4]) (rest := [.ref h0]) ⟨hx, hb, hml, hown, hts⟩ (mX7_setOf l dC dI cyI cyO cyL y4 _ (fX7_setOf y4) rfl) ⟨va_cnB 1 hts (gW co_X7_setOf) rfl rfl rfl (hK.2 _ nl_X1_66) (hts _ (gb_mem in_X7)) (by decide +kernel) ⟨Nat.le_of_ble_eq_true rfl, Nat.le_of_ble_eq_true rfl⟩, hts _ (gb_mem st_X7_setOf), trivial⟩ (cP_S hK hP hD [] rfl rfl) rfl rfl hl.1 rfl (lv_room (Nat.le_of_ble_eq_true rfl)) dX1_canWrapAgain_22 ⟨Nat.zero_le _, Nat.zero_le _⟩) hP hD hS hA [] rfl (fun H locs hP hS => ?_)
          refine lv_iload_n hx hb dX1_canWrapAgain_25 rfl (lv_at hl 2 rfl) ?_
          refine lv_iload_n hx hb dX1_canWrapAgain_26 rfl (lv_at hl 3 rfl) ?_
          obtain ⟨q3, e4, h⟩ := ob h
          refine fr_ir (M := (houseW cyI h0 t0 t1 t2 t3 t4 t5 t6 t7 t8 w0 w1 w2 w3 w4 w5 w6 w7 w8 w9 w10 mostWear keys boxes liveKeys liveBoxes parents makes wears keysOfBoxes number heldKeys heldWhats closers closerMakes stands)) (va_runV (As := [.int (fX7_setOf y4), .int y2, .int y3]) (rest := []) ⟨hx, hb, hml, hown, hts⟩ (mX1_hangingWithout l dC dI cyI cyO cyL h0 t0 t1 t2 t3 t4 t5 t6 t7 t8 w0 w1 w2 w3 w4 w5 w6 w7 w8 w9 w10 mostWear keys boxes liveKeys liveBoxes parents makes wears keysOfBoxes number heldKeys heldWhats closers closerMakes stands (fX7_setOf y4) y2 y3 _ q3 e4) (cwV 3 hts (gV ml_X1_79 im_X1_hangingWithout se_X1_hangingWithout in_X1 co_X1_hangingWithout) rfl rfl rfl (by decide +kernel) ⟨Nat.le_of_ble_eq_true rfl, Nat.le_of_ble_eq_true rfl⟩) (cP_V hK hP hD [0, 1, 2, 3, 4, 5, 6, 7, 8, 9, 10, 11, 12, 13, 14, 15, 16, 17, 18, 19, 20] rfl rfl 0 rfl rfl) rfl rfl hl.1 rfl (lv_room (Nat.le_of_ble_eq_true rfl)) dX1_canWrapAgain_27 ⟨Nat.zero_le _, Nat.zero_le _⟩) hP hD hS hA [0, 1, 2, 3, 4, 5, 6, 7, 8, 9, 10, 11, 12, 13, 14, 15, 16, 17, 18, 19, 20] rfl (fun H locs hP hS => ?_)
          refine lv_aload_n hx hb dX1_canWrapAgain_30 rfl (lv_at hl 0 rfl) ?_
          refine va_get (D := (dC, dI)) (ci := 1) (v := .ref t0) (C := RX1) (T := TX1) (N := 2) hx hb hts (fun w h9 => gb_mem (lay_X1 w h9)) hown hK.1 hP 0 rfl rfl 0 (by decide) (hts _ (gb_mem fl_X1_12)) (fun _ h9 => h9) rfl dX1_canWrapAgain_31 ?_
          refine va_getN (D := (dC, dI)) (ci := 5) (v := .int mostWear) (C := RX5) (T := TX5) (N := 9) hx hb hts (fun w h9 => gb_mem (lay_X5 w h9)) hown hK.1 hP 1 rfl rfl 0 (by decide) (va_Nw.use rfl (hK.2 _ nl_X1_25)) (fun _ h9 => h9) rfl dX1_canWrapAgain_34 ?_
          refine lv_icmp_le (tgt := 42) hx hb dX1_canWrapAgain_37 (by decide) (fun c5 => ?_) (fun c5 => ?_)
          · have h := (if_pos c5).symm.trans h
            refine lv_iinc (v := (y4 + 1)) (lv' := [(4, .int (y4 + 1)), (0, .ref h0), (1, .int y1), (2, .int y2), (3, .int y3)]) hx hb dX1_canWrapAgain_42 hl (k := 4) rfl rfl (by decide) rfl (fun ls hl => ?_)
            refine lv_goto (tgt := 3) hx hb dX1_canWrapAgain_45 (by decide) ?_
            exact ih mostWear keys boxes liveKeys liveBoxes parents keysOfBoxes y1 y2 y3 (y4 + 1) h _ _ hP hD hS ls (lv_sub hl [1, 2, 3, 4, 0] rfl)
          · have h := (if_neg c5).symm.trans h
            refine lv_iconst (v := 0) hx hb dX1_canWrapAgain_40 (by decide) ?_
            obtain rfl := Option.some.inj h
            exact e_z (v := 0) hx hb hr hlocks rfl hP hS dX1_canWrapAgain_41
  have hl := lv_entry ([.ref h0, .int x1, .int x2, .int x3]) (n := 5) (Nat.le_of_ble_eq_true rfl)
  rw [lg_entry_eq]
  generalize (lg_sl ([.ref h0, .int x1, .int x2, .int x3]) ++ List.replicate (5 - (lg_sl ([.ref h0, .int x1, .int x2, .int x3])).length) Slot.unset).toArray = ls at hl ⊢
  have hl : lv_has ls 5 [(0, .ref h0), (1, .int x1), (2, .int x2), (3, .int x3)] := hl
  unfold fX1_canWrapAgain at h
  refine lv_iconst (v := 0) hx hb dX1_canWrapAgain_0 (by decide) ?_
  refine lv_istore (lv' := [(4, .int 0), (0, .ref h0), (1, .int x1), (2, .int x2), (3, .int x3)]) hx hb dX1_canWrapAgain_1 hl (by decide) rfl (fun ls hl => ?_)
  exact kB3 6000 mostWear keys boxes liveKeys liveBoxes parents keysOfBoxes x1 x2 x3 0 h _ _ hP hD hS ls (lv_sub hl [1, 2, 3, 4, 0] rfl)
noncomputable def fX1_throwAway_b135 : Nat → Int32 → Int32 → Int32 → Int32 → Int32 → (Nat → Int32) → (Nat → Int32) → (Nat → Int32) → (Nat → Int32) → Int32 → (Nat → Int32) → (Nat → Int32) → (Nat → Int32) → (Nat → Int32) → (Nat → Int32) → Int32 → Int32 → Int32 → Option (Int32 × Int32 × Int32 × (Nat → Int32) × (Nat → Int32) × Int32 × (Nat → Int32) × (Nat → Int32) × (Nat → Int32) × (Nat → Int32) × (Nat → Int32))
  | 0, _, _, _, _, _, _, _, _, _, _, _, _, _, _, _, _, _, _ => none
  | fuel + 1, mostWear, keys, boxes, liveKeys, liveBoxes, parents, makes, wears, keysOfBoxes, number, heldKeys, heldWhats, closers, closerMakes, stands, y3, y6, y7 =>
  (if 20 ≤ y7 then (some (y6, liveKeys, liveBoxes, makes, wears, number, heldKeys, heldWhats, closers, closerMakes, stands)) else (if (fX7_has y3 y7) = 0 then fX1_throwAway_b135 fuel mostWear keys boxes liveKeys liveBoxes parents makes wears keysOfBoxes number heldKeys heldWhats closers closerMakes stands y3 y6 (y7 + 1) else ((fX1_wrapAllOn keys boxes liveKeys liveBoxes parents makes wears keysOfBoxes number heldKeys heldWhats closers closerMakes stands y7).bind fun q3 => fX1_throwAway_b135 fuel mostWear keys boxes liveKeys liveBoxes parents makes q3.1 keysOfBoxes q3.2.1 q3.2.2.1 q3.2.2.2.1 q3.2.2.2.2.1 q3.2.2.2.2.2.1 q3.2.2.2.2.2.2 y3 y6 (y7 + 1))))

noncomputable def fX1_throwAway_b62 (mostWear : Int32) (keys : Int32) (boxes : Int32) (liveKeys : Int32) (liveBoxes : Int32) (parents : Nat → Int32) (makes : Nat → Int32) (wears : Nat → Int32) (keysOfBoxes : Nat → Int32) (number : Int32) (heldKeys : Nat → Int32) (heldWhats : Nat → Int32) (closers : Nat → Int32) (closerMakes : Nat → Int32) (stands : Nat → Int32) (y3 : Int32) (y4 : Int32) (z0 : Int32) : Option (Int32 × Int32 × Int32 × (Nat → Int32) × (Nat → Int32) × Int32 × (Nat → Int32) × (Nat → Int32) × (Nat → Int32) × (Nat → Int32) × (Nat → Int32)) :=
  ((fX1_hangingWithout keys boxes liveKeys liveBoxes parents keysOfBoxes y3 y4 z0).bind fun q5 => (if (fX6_haveRoomFor number q5) = 0 then (some ((-4), liveKeys, liveBoxes, makes, wears, number, heldKeys, heldWhats, closers, closerMakes, stands)) else ((fX1_canWrapAgain mostWear keys boxes liveKeys liveBoxes parents keysOfBoxes y3 y4 z0).bind fun q8 => (if q8 = 0 then (some ((-5), liveKeys, liveBoxes, makes, wears, number, heldKeys, heldWhats, closers, closerMakes, stands)) else ((fX5_endLife liveKeys liveBoxes y4 z0).bind fun q11 => ((fX6_burnHolding number heldKeys heldWhats stands y4 z0).bind fun q13 => ((fX1_startNextMakes makes wears number heldKeys heldWhats closers closerMakes q13 y3).bind fun q15 => fX1_throwAway_b135 6000 mostWear keys boxes q11.1 q11.2 parents q15.1 q15.2.1 keysOfBoxes number heldKeys heldWhats closers closerMakes q15.2.2 y3 q5 0)))))))

noncomputable def fX1_throwAway (mostWear : Int32) (keys : Int32) (boxes : Int32) (liveKeys : Int32) (liveBoxes : Int32) (parents : Nat → Int32) (makes : Nat → Int32) (wears : Nat → Int32) (keysOfBoxes : Nat → Int32) (number : Int32) (heldKeys : Nat → Int32) (heldWhats : Nat → Int32) (closers : Nat → Int32) (closerMakes : Nat → Int32) (stands : Nat → Int32) (x1 : Int32) (x2 : Int32) : Option (Int32 × Int32 × Int32 × (Nat → Int32) × (Nat → Int32) × Int32 × (Nat → Int32) × (Nat → Int32) × (Nat → Int32) × (Nat → Int32) × (Nat → Int32)) :=
  (if (fX5_isLive liveKeys liveBoxes x1 x2) = 0 then (some ((-1), liveKeys, liveBoxes, makes, wears, number, heldKeys, heldWhats, closers, closerMakes, stands)) else ((fX5_aboveThat parents keysOfBoxes x1 x2).bind fun q18 => (if x1 = 0 then ((fX5_withAllBelow keys parents x2).bind fun q24 => (if x1 = 0 then ((fX5_liveBoxesOn boxes liveBoxes keysOfBoxes q24).bind fun q27 => fX1_throwAway_b62 mostWear keys boxes liveKeys liveBoxes parents makes wears keysOfBoxes number heldKeys heldWhats closers closerMakes stands q18 q24 q27) else fX1_throwAway_b62 mostWear keys boxes liveKeys liveBoxes parents makes wears keysOfBoxes number heldKeys heldWhats closers closerMakes stands q18 q24 (fX7_setOf x2))) else (if x1 = 0 then ((fX5_liveBoxesOn boxes liveBoxes keysOfBoxes 0).bind fun q22 => fX1_throwAway_b62 mostWear keys boxes liveKeys liveBoxes parents makes wears keysOfBoxes number heldKeys heldWhats closers closerMakes stands q18 0 q22) else fX1_throwAway_b62 mostWear keys boxes liveKeys liveBoxes parents makes wears keysOfBoxes number heldKeys heldWhats closers closerMakes stands q18 0 (fX7_setOf x2)))))
set_option maxHeartbeats 1000000 in
set_option maxRecDepth 100000 in
theorem mX1_throwAway (l : Launch) (dC : Nat → ClassId) (dI : Nat → Nat → Nat) (cyI cyO cyL : ClassId) (h0 t0 t1 t2 t3 t4 t5 t6 t7 t8 w0 w1 w2 w3 w4 w5 w6 w7 w8 w9 w10 : Nat) (mostWear : Int32) (keys : Int32) (boxes : Int32) (liveKeys : Int32) (liveBoxes : Int32) (parents : Nat → Int32) (makes : Nat → Int32) (wears : Nat → Int32) (keysOfBoxes : Nat → Int32) (number : Int32) (heldKeys : Nat → Int32) (heldWhats : Nat → Int32) (closers : Nat → Int32) (closerMakes : Nat → Int32) (stands : Nat → Int32) (x1 : Int32) (x2 : Int32) (sz : Nat) (res : Int32 × Int32 × Int32 × (Nat → Int32) × (Nat → Int32) × Int32 × (Nat → Int32) × (Nat → Int32) × (Nat → Int32) × (Nat → Int32) × (Nat → Int32)) (h : fX1_throwAway mostWear keys boxes liveKeys liveBoxes parents makes wears keysOfBoxes number heldKeys heldWhats closers closerMakes stands x1 x2 = some res) : Met l yX1_throwAway (wsG yX1_throwAway cX1_throwAway 8 (some .int)) ({ frames := 4, cells := 0, slots := 0, locals := 92 }) (cP dC dI cyI cyO cyL sz [.ref h0, .int x1, .int x2] (houseW cyI h0 t0 t1 t2 t3 t4 t5 t6 t7 t8 w0 w1 w2 w3 w4 w5 w6 w7 w8 w9 w10 mostWear keys boxes liveKeys liveBoxes parents makes wears keysOfBoxes number heldKeys heldWhats closers closerMakes stands)) (cI dC dI res.1 (houseW cyI h0 t0 t1 t2 t3 t4 t5 t6 t7 t8 w0 w1 w2 w3 w4 w5 w6 w7 w8 w9 w10 mostWear keys boxes res.2.1 res.2.2.1 parents res.2.2.2.1 res.2.2.2.2.1 keysOfBoxes res.2.2.2.2.2.1 res.2.2.2.2.2.2.1 res.2.2.2.2.2.2.2.1 res.2.2.2.2.2.2.2.2.1 res.2.2.2.2.2.2.2.2.2.1 res.2.2.2.2.2.2.2.2.2.2) (va_A (houseW cyI h0 t0 t1 t2 t3 t4 t5 t6 t7 t8 w0 w1 w2 w3 w4 w5 w6 w7 w8 w9 w10 mostWear keys boxes liveKeys liveBoxes parents makes wears keysOfBoxes number heldKeys heldWhats closers closerMakes stands) sz)) 0 0 (va_A (houseW cyI h0 t0 t1 t2 t3 t4 t5 t6 t7 t8 w0 w1 w2 w3 w4 w5 w6 w7 w8 w9 w10 mostWear keys boxes liveKeys liveBoxes parents makes wears keysOfBoxes number heldKeys heldWhats closers closerMakes stands) sz) := by
  refine Met.ofW (cc := cX1_throwAway) (maxL := 8) (ret := (some .int)) (by decide) rfl ?_
  intro p e s m args below meth c s₁ B hml hv
  obtain ⟨rfl, hsz, hP, hK, hD0⟩ := hv
  have hx := B.exec
  have hb := B.bytes
  have hr := B.returns
  have hts := atoms_spec (ws := wsG yX1_throwAway cX1_throwAway 8 (some .int)) B.pre
  have hown : s.vm.findClass RX1 = some m.cls := findClass_of_methodNamed B.named
  have hlocks := B.notSynchronized
  subst hsz
  have hD := hD0.self (sz := s.heap.size)
  generalize hAe : va_A (houseW cyI h0 t0 t1 t2 t3 t4 t5 t6 t7 t8 w0 w1 w2 w3 w4 w5 w6 w7 w8 w9 w10 mostWear keys boxes liveKeys liveBoxes parents makes wears keysOfBoxes number heldKeys heldWhats closers closerMakes stands) s.heap.size = A at hD ⊢
  have hA : ∀ q : Nat, s.heap.size ≤ q → A q := fun q h => by rw [← hAe]; exact Or.inr h
  have hS : va_S A s.heap s.heap [] := va_S.rf
  have kB135 : ∀ (fuel : Nat) (mostWear : Int32) (keys : Int32) (boxes : Int32) (liveKeys : Int32) (liveBoxes : Int32) (parents : Nat → Int32) (makes : Nat → Int32) (wears : Nat → Int32) (keysOfBoxes : Nat → Int32) (number : Int32) (heldKeys : Nat → Int32) (heldWhats : Nat → Int32) (closers : Nat → Int32) (closerMakes : Nat → Int32) (stands : Nat → Int32) (y3 : Int32) (y6 : Int32) (y7 : Int32), fX1_throwAway_b135 fuel mostWear keys boxes liveKeys liveBoxes parents makes wears keysOfBoxes number heldKeys heldWhats closers closerMakes stands y3 y6 y7 = some res → ∀ (H : Heap) (locs : List Loc), va_P (dC, dI) vwCl (houseW cyI h0 t0 t1 t2 t3 t4 t5 t6 t7 t8 w0 w1 w2 w3 w4 w5 w6 w7 w8 w9 w10 mostWear keys boxes liveKeys liveBoxes parents makes wears keysOfBoxes number heldKeys heldWhats closers closerMakes stands) H → va_D A (houseW cyI h0 t0 t1 t2 t3 t4 t5 t6 t7 t8 w0 w1 w2 w3 w4 w5 w6 w7 w8 w9 w10 mostWear keys boxes liveKeys liveBoxes parents makes wears keysOfBoxes number heldKeys heldWhats closers closerMakes stands) → va_S A s.heap H locs → ∀ ls : Array Slot, lv_has ls 8 [(0, .ref h0), (3, .int y3), (6, .int y6), (7, .int y7)] → W p l e (headSpec (wsG yX1_throwAway cX1_throwAway 8 (some .int)) ({ frames := 4, cells := 0, slots := 0, locals := 92 })).room s m (([.ref h0, .int x1, .int x2] : List Value).toArray) below meth c H locs 0 0 (MQ below (cI dC dI res.1 (houseW cyI h0 t0 t1 t2 t3 t4 t5 t6 t7 t8 w0 w1 w2 w3 w4 w5 w6 w7 w8 w9 w10 mostWear keys boxes res.2.1 res.2.2.1 parents res.2.2.2.1 res.2.2.2.2.1 keysOfBoxes res.2.2.2.2.2.1 res.2.2.2.2.2.2.1 res.2.2.2.2.2.2.2.1 res.2.2.2.2.2.2.2.2.1 res.2.2.2.2.2.2.2.2.2.1 res.2.2.2.2.2.2.2.2.2.2) A) ([.ref h0, .int x1, .int x2] : List Value).toArray s 0 0 A) (F0 m 135 ls []) := by
    intro fuel
    induction fuel with
    | zero => intro mostWear keys boxes liveKeys liveBoxes parents makes wears keysOfBoxes number heldKeys heldWhats closers closerMakes stands y3 y6 y7 h; rw [fX1_throwAway_b135] at h; cases h
    | succ fuel ih =>
      intro mostWear keys boxes liveKeys liveBoxes parents makes wears keysOfBoxes number heldKeys heldWhats closers closerMakes stands y3 y6 y7 h H locs hP hD hS ls hl
      rw [fX1_throwAway_b135] at h
      refine lv_iload hx hb dX1_throwAway_135 (lv_at hl 3 rfl) ?_
      refine lv_bipush (v := 20) hx hb dX1_throwAway_137 (by decide) ?_
      refine lv_icmp_ge (tgt := 163) hx hb dX1_throwAway_139 (by decide) (fun c1 => ?_) (fun c1 => ?_)
      · have h := (if_pos c1).symm.trans h
        refine lv_iload hx hb dX1_throwAway_163 (lv_at hl 2 rfl) ?_
        obtain rfl := Option.some.inj h
        exact e_i hx hb hr hlocks hP hS dX1_throwAway_165
      · have h := (if_neg c1).symm.trans h
        refine lv_iload_n hx hb dX1_throwAway_142 rfl (lv_at hl 1 rfl) ?_
        refine lv_iload hx hb dX1_throwAway_143 (lv_at hl 3 rfl) ?_
        refine fr_ir (M := ([] : va_W)) (va_runSN (host := "HangingKeys") (As := [.int y3, .int y7]) (rest := []) ⟨hx, hb, hml, hown, hts⟩ (mX7_has l dC dI cyI cyO cyL y3 y7 _ (fX7_has y3 y7) rfl) ⟨va_cnB 2 hts (gW co_X7_has) rfl rfl rfl (hK.2 _ nl_X1_115) (hts _ (gb_mem in_X7)) (by decide +kernel) ⟨Nat.le_of_ble_eq_true rfl, Nat.le_of_ble_eq_true rfl⟩, hts _ (gb_mem st_X7_has), trivial⟩ (cP_S hK hP hD [] rfl rfl) rfl rfl hl.1 rfl (lv_room (Nat.le_of_ble_eq_true rfl)) dX1_throwAway_145 ⟨Nat.zero_le _, Nat.zero_le _⟩) hP hD hS hA [] rfl (fun H locs hP hS => ?_)
        refine lv_if_eq (tgt := 157) hx hb dX1_throwAway_148 (by decide) (fun c2 => ?_) (fun c2 => ?_)
        · have h := (if_pos c2).symm.trans h
          refine lv_iinc (v := (y7 + 1)) (lv' := [(7, .int (y7 + 1)), (0, .ref h0), (3, .int y3), (6, .int y6)]) hx hb dX1_throwAway_157 hl (k := 3) rfl rfl (by decide) rfl (fun ls hl => ?_)
          refine lv_goto (tgt := 135) hx hb dX1_throwAway_160 (by decide) ?_
          exact ih mostWear keys boxes liveKeys liveBoxes parents makes wears keysOfBoxes number heldKeys heldWhats closers closerMakes stands y3 y6 (y7 + 1) h _ _ hP hD hS ls (lv_sub hl [1, 2, 3, 0] rfl)
        · have h := (if_neg c2).symm.trans h
          refine lv_aload_n hx hb dX1_throwAway_151 rfl (lv_at hl 0 rfl) ?_
          refine lv_iload hx hb dX1_throwAway_152 (lv_at hl 3 rfl) ?_
          obtain ⟨q3, e4, h⟩ := ob h
          refine fr_v (M := (houseW cyI h0 t0 t1 t2 t3 t4 t5 t6 t7 t8 w0 w1 w2 w3 w4 w5 w6 w7 w8 w9 w10 mostWear keys boxes liveKeys liveBoxes parents makes wears keysOfBoxes number heldKeys heldWhats closers closerMakes stands)) (M' := (houseW cyI h0 t0 t1 t2 t3 t4 t5 t6 t7 t8 w0 w1 w2 w3 w4 w5 w6 w7 w8 w9 w10 mostWear keys boxes liveKeys liveBoxes parents makes q3.1 keysOfBoxes q3.2.1 q3.2.2.1 q3.2.2.2.1 q3.2.2.2.2.1 q3.2.2.2.2.2.1 q3.2.2.2.2.2.2)) (L' := (houseW cyI h0 t0 t1 t2 t3 t4 t5 t6 t7 t8 w0 w1 w2 w3 w4 w5 w6 w7 w8 w9 w10 mostWear keys boxes liveKeys liveBoxes parents makes q3.1 keysOfBoxes q3.2.1 q3.2.2.1 q3.2.2.2.1 q3.2.2.2.2.1 q3.2.2.2.2.2.1 q3.2.2.2.2.2.2)) (va_runV (As := [.int y7]) (rest := []) ⟨hx, hb, hml, hown, hts⟩ (mX1_wrapAllOn l dC dI cyI cyO cyL h0 t0 t1 t2 t3 t4 t5 t6 t7 t8 w0 w1 w2 w3 w4 w5 w6 w7 w8 w9 w10 mostWear keys boxes liveKeys liveBoxes parents makes wears keysOfBoxes number heldKeys heldWhats closers closerMakes stands y7 _ q3 e4) (cwV 1 hts (gV ml_X1_89 im_X1_wrapAllOn se_X1_wrapAllOn in_X1 co_X1_wrapAllOn) rfl rfl rfl (by decide +kernel) ⟨Nat.le_of_ble_eq_true rfl, Nat.le_of_ble_eq_true rfl⟩) (cP_V hK hP hD [0, 1, 2, 3, 4, 5, 6, 7, 8, 9, 10, 11, 12, 13, 14, 15, 16, 17, 18, 19, 20] rfl rfl 0 rfl rfl) rfl rfl hl.1 rfl (lv_room (Nat.le_of_ble_eq_true rfl)) dX1_throwAway_154 ⟨Nat.zero_le _, Nat.zero_le _⟩) hP hD hS hA [0, 1, 2, 3, 4, 5, 6, 7, 8, 9, 10, 11, 12, 13, 14, 15, 16, 17, 18, 19, 20] rfl [(true, 0), (true, 1), (true, 2), (true, 3), (true, 4), (true, 5), (true, 6), (true, 7), (true, 8), (true, 9), (true, 10), (true, 11), (true, 12), (true, 13), (true, 14), (true, 15), (true, 16), (true, 17), (true, 18), (true, 19), (true, 20)] rfl rfl rfl (fun H locs hP hD hS => ?_)
          refine lv_iinc (v := (y7 + 1)) (lv' := [(7, .int (y7 + 1)), (0, .ref h0), (3, .int y3), (6, .int y6)]) hx hb dX1_throwAway_157 hl (k := 3) rfl rfl (by decide) rfl (fun ls hl => ?_)
          refine lv_goto (tgt := 135) hx hb dX1_throwAway_160 (by decide) ?_
          exact ih mostWear keys boxes liveKeys liveBoxes parents makes q3.1 keysOfBoxes q3.2.1 q3.2.2.1 q3.2.2.2.1 q3.2.2.2.2.1 q3.2.2.2.2.2.1 q3.2.2.2.2.2.2 y3 y6 (y7 + 1) h _ _ hP hD hS ls (lv_sub hl [1, 2, 3, 0] rfl)
  have kB62 : ∀ (mostWear : Int32) (keys : Int32) (boxes : Int32) (liveKeys : Int32) (liveBoxes : Int32) (parents : Nat → Int32) (makes : Nat → Int32) (wears : Nat → Int32) (keysOfBoxes : Nat → Int32) (number : Int32) (heldKeys : Nat → Int32) (heldWhats : Nat → Int32) (closers : Nat → Int32) (closerMakes : Nat → Int32) (stands : Nat → Int32) (y3 : Int32) (y4 : Int32) (z0 : Int32), fX1_throwAway_b62 mostWear keys boxes liveKeys liveBoxes parents makes wears keysOfBoxes number heldKeys heldWhats closers closerMakes stands y3 y4 z0 = some res → ∀ (H : Heap) (locs : List Loc), va_P (dC, dI) vwCl (houseW cyI h0 t0 t1 t2 t3 t4 t5 t6 t7 t8 w0 w1 w2 w3 w4 w5 w6 w7 w8 w9 w10 mostWear keys boxes liveKeys liveBoxes parents makes wears keysOfBoxes number heldKeys heldWhats closers closerMakes stands) H → va_D A (houseW cyI h0 t0 t1 t2 t3 t4 t5 t6 t7 t8 w0 w1 w2 w3 w4 w5 w6 w7 w8 w9 w10 mostWear keys boxes liveKeys liveBoxes parents makes wears keysOfBoxes number heldKeys heldWhats closers closerMakes stands) → va_S A s.heap H locs → ∀ ls : Array Slot, lv_has ls 8 [(0, .ref h0), (3, .int y3), (4, .int y4)] → W p l e (headSpec (wsG yX1_throwAway cX1_throwAway 8 (some .int)) ({ frames := 4, cells := 0, slots := 0, locals := 92 })).room s m (([.ref h0, .int x1, .int x2] : List Value).toArray) below meth c H locs 0 0 (MQ below (cI dC dI res.1 (houseW cyI h0 t0 t1 t2 t3 t4 t5 t6 t7 t8 w0 w1 w2 w3 w4 w5 w6 w7 w8 w9 w10 mostWear keys boxes res.2.1 res.2.2.1 parents res.2.2.2.1 res.2.2.2.2.1 keysOfBoxes res.2.2.2.2.2.1 res.2.2.2.2.2.2.1 res.2.2.2.2.2.2.2.1 res.2.2.2.2.2.2.2.2.1 res.2.2.2.2.2.2.2.2.2.1 res.2.2.2.2.2.2.2.2.2.2) A) ([.ref h0, .int x1, .int x2] : List Value).toArray s 0 0 A) (F0 m 62 ls [.int z0]) := by
    intro mostWear keys boxes liveKeys liveBoxes parents makes wears keysOfBoxes number heldKeys heldWhats closers closerMakes stands y3 y4 z0 h H locs hP hD hS ls hl
    unfold fX1_throwAway_b62 at h
    refine lv_istore (lv' := [(5, .int z0), (0, .ref h0), (3, .int y3), (4, .int y4)]) hx hb dX1_throwAway_62 hl (by decide) rfl (fun ls hl => ?_)
    refine lv_aload_n hx hb dX1_throwAway_64 rfl (lv_at hl 1 rfl) ?_
    refine lv_iload_n hx hb dX1_throwAway_65 rfl (lv_at hl 2 rfl) ?_
    refine lv_iload hx hb dX1_throwAway_66 (lv_at hl 3 rfl) ?_
    refine lv_iload hx hb dX1_throwAway_68 (lv_at hl 0 rfl) ?_
    obtain ⟨q5, e6, h⟩ := ob h
    refine fr_ir (M := (houseW cyI h0 t0 t1 t2 t3 t4 t5 t6 t7 t8 w0 w1 w2 w3 w4 w5 w6 w7 w8 w9 w10 mostWear keys boxes liveKeys liveBoxes parents makes wears keysOfBoxes number heldKeys heldWhats closers closerMakes stands)) (va_runV (As := [.int y3, .int y4, .int z0]) (rest := []) ⟨hx, hb, hml, hown, hts⟩ (mX1_hangingWithout l dC dI cyI cyO cyL h0 t0 t1 t2 t3 t4 t5 t6 t7 t8 w0 w1 w2 w3 w4 w5 w6 w7 w8 w9 w10 mostWear keys boxes liveKeys liveBoxes parents makes wears keysOfBoxes number heldKeys heldWhats closers closerMakes stands y3 y4 z0 _ q5 e6) (cwV 3 hts (gV ml_X1_79 im_X1_hangingWithout se_X1_hangingWithout in_X1 co_X1_hangingWithout) rfl rfl rfl (by decide +kernel) ⟨Nat.le_of_ble_eq_true rfl, Nat.le_of_ble_eq_true rfl⟩) (cP_V hK hP hD [0, 1, 2, 3, 4, 5, 6, 7, 8, 9, 10, 11, 12, 13, 14, 15, 16, 17, 18, 19, 20] rfl rfl 0 rfl rfl) rfl rfl hl.1 rfl (lv_room (Nat.le_of_ble_eq_true rfl)) dX1_throwAway_70 ⟨Nat.zero_le _, Nat.zero_le _⟩) hP hD hS hA [0, 1, 2, 3, 4, 5, 6, 7, 8, 9, 10, 11, 12, 13, 14, 15, 16, 17, 18, 19, 20] rfl (fun H locs hP hS => ?_)
    refine lv_istore (lv' := [(6, .int q5), (5, .int z0), (0, .ref h0), (3, .int y3), (4, .int y4)]) hx hb dX1_throwAway_73 hl (by decide) rfl (fun ls hl => ?_)
    refine lv_aload_n hx hb dX1_throwAway_75 rfl (lv_at hl 2 rfl) ?_
    refine va_get (D := (dC, dI)) (ci := 1) (v := .ref w0) (C := RX1) (T := TX1) (N := 2) hx hb hts (fun w h9 => gb_mem (lay_X1 w h9)) hown hK.1 hP 0 rfl rfl 1 (by decide) (hts _ (gb_mem fl_X1_21)) (fun _ h9 => h9) rfl dX1_throwAway_76 ?_
    refine lv_iload hx hb dX1_throwAway_79 (lv_at hl 0 rfl) ?_
    refine fr_ir (M := (wrapsW cyI w0 w1 w2 w3 w4 w5 w6 w7 w8 w9 w10 number heldKeys heldWhats closers closerMakes stands)) (va_runV (As := [.int q5]) (rest := []) ⟨hx, hb, hml, hown, hts⟩ (mX6_haveRoomFor l dC dI cyI cyO cyL w0 w1 w2 w3 w4 w5 w6 w7 w8 w9 w10 number heldKeys heldWhats closers closerMakes stands q5 _ (fX6_haveRoomFor number q5) rfl) (cwV 1 hts (gV ml_X1_36 im_X6_haveRoomFor se_X6_haveRoomFor in_X6 co_X6_haveRoomFor) rfl rfl rfl (by decide +kernel) ⟨Nat.le_of_ble_eq_true rfl, Nat.le_of_ble_eq_true rfl⟩) (cP_V hK hP hD [10, 11, 12, 13, 14, 15, 16, 17, 18, 19, 20] rfl rfl 10 rfl rfl) rfl rfl hl.1 rfl (lv_room (Nat.le_of_ble_eq_true rfl)) dX1_throwAway_81 ⟨Nat.zero_le _, Nat.zero_le _⟩) hP hD hS hA [10, 11, 12, 13, 14, 15, 16, 17, 18, 19, 20] rfl (fun H locs hP hS => ?_)
    refine lv_if_ne (tgt := 90) hx hb dX1_throwAway_84 (by decide) (fun c7 => ?_) (fun c7 => ?_)
    · have h := (if_neg c7).symm.trans h
      refine lv_aload_n hx hb dX1_throwAway_90 rfl (lv_at hl 2 rfl) ?_
      refine lv_iload_n hx hb dX1_throwAway_91 rfl (lv_at hl 3 rfl) ?_
      refine lv_iload hx hb dX1_throwAway_92 (lv_at hl 4 rfl) ?_
      refine lv_iload hx hb dX1_throwAway_94 (lv_at hl 1 rfl) ?_
      obtain ⟨q8, e9, h⟩ := ob h
      refine fr_ir (M := (houseW cyI h0 t0 t1 t2 t3 t4 t5 t6 t7 t8 w0 w1 w2 w3 w4 w5 w6 w7 w8 w9 w10 mostWear keys boxes liveKeys liveBoxes parents makes wears keysOfBoxes number heldKeys heldWhats closers closerMakes stands)) (va_runV (As := [.int y3, .int y4, .int z0]) (rest := []) ⟨hx, hb, hml, hown, hts⟩ (mX1_canWrapAgain l dC dI cyI cyO cyL h0 t0 t1 t2 t3 t4 t5 t6 t7 t8 w0 w1 w2 w3 w4 w5 w6 w7 w8 w9 w10 mostWear keys boxes liveKeys liveBoxes parents makes wears keysOfBoxes number heldKeys heldWhats closers closerMakes stands y3 y4 z0 _ q8 e9) (cwV 3 hts (gV ml_X1_105 im_X1_canWrapAgain se_X1_canWrapAgain in_X1 co_X1_canWrapAgain) rfl rfl rfl (by decide +kernel) ⟨Nat.le_of_ble_eq_true rfl, Nat.le_of_ble_eq_true rfl⟩) (cP_V hK hP hD [0, 1, 2, 3, 4, 5, 6, 7, 8, 9, 10, 11, 12, 13, 14, 15, 16, 17, 18, 19, 20] rfl rfl 0 rfl rfl) rfl rfl hl.1 rfl (lv_room (Nat.le_of_ble_eq_true rfl)) dX1_throwAway_96 ⟨Nat.zero_le _, Nat.zero_le _⟩) hP hD hS hA [0, 1, 2, 3, 4, 5, 6, 7, 8, 9, 10, 11, 12, 13, 14, 15, 16, 17, 18, 19, 20] rfl (fun H locs hP hS => ?_)
      refine lv_if_ne (tgt := 105) hx hb dX1_throwAway_99 (by decide) (fun c10 => ?_) (fun c10 => ?_)
      · have h := (if_neg c10).symm.trans h
        refine lv_aload_n hx hb dX1_throwAway_105 rfl (lv_at hl 2 rfl) ?_
        refine va_get (D := (dC, dI)) (ci := 1) (v := .ref t0) (C := RX1) (T := TX1) (N := 2) hx hb hts (fun w h9 => gb_mem (lay_X1 w h9)) hown hK.1 hP 0 rfl rfl 0 (by decide) (hts _ (gb_mem fl_X1_12)) (fun _ h9 => h9) rfl dX1_throwAway_106 ?_
        refine lv_iload hx hb dX1_throwAway_109 (lv_at hl 4 rfl) ?_
        refine lv_iload hx hb dX1_throwAway_111 (lv_at hl 1 rfl) ?_
        obtain ⟨q11, e12, h⟩ := ob h
        refine fr_v (M := (treeW cyI t0 t1 t2 t3 t4 t5 t6 t7 t8 mostWear keys boxes liveKeys liveBoxes parents makes wears keysOfBoxes)) (M' := (treeW cyI t0 t1 t2 t3 t4 t5 t6 t7 t8 mostWear keys boxes q11.1 q11.2 parents makes wears keysOfBoxes)) (L' := (houseW cyI h0 t0 t1 t2 t3 t4 t5 t6 t7 t8 w0 w1 w2 w3 w4 w5 w6 w7 w8 w9 w10 mostWear keys boxes q11.1 q11.2 parents makes wears keysOfBoxes number heldKeys heldWhats closers closerMakes stands)) (va_runV (As := [.int y4, .int z0]) (rest := []) ⟨hx, hb, hml, hown, hts⟩ (mX5_endLife l dC dI cyI cyO cyL t0 t1 t2 t3 t4 t5 t6 t7 t8 mostWear keys boxes liveKeys liveBoxes parents makes wears keysOfBoxes y4 z0 _ q11 e12) (cwV 2 hts (gV ml_X1_109 im_X5_endLife se_X5_endLife in_X5 co_X5_endLife) rfl rfl rfl (by decide +kernel) ⟨Nat.le_of_ble_eq_true rfl, Nat.le_of_ble_eq_true rfl⟩) (cP_V hK hP hD [1, 2, 3, 4, 5, 6, 7, 8, 9] rfl rfl 1 rfl rfl) rfl rfl hl.1 rfl (lv_room (Nat.le_of_ble_eq_true rfl)) dX1_throwAway_113 ⟨Nat.zero_le _, Nat.zero_le _⟩) hP hD hS hA [1, 2, 3, 4, 5, 6, 7, 8, 9] rfl [(false, 0), (true, 0), (true, 1), (true, 2), (true, 3), (true, 4), (true, 5), (true, 6), (true, 7), (true, 8), (false, 10), (false, 11), (false, 12), (false, 13), (false, 14), (false, 15), (false, 16), (false, 17), (false, 18), (false, 19), (false, 20)] rfl rfl rfl (fun H locs hP hD hS => ?_)
        refine lv_aload_n hx hb dX1_throwAway_116 rfl (lv_at hl 2 rfl) ?_
        refine va_get (D := (dC, dI)) (ci := 1) (v := .ref w0) (C := RX1) (T := TX1) (N := 2) hx hb hts (fun w h9 => gb_mem (lay_X1 w h9)) hown hK.1 hP 0 rfl rfl 1 (by decide) (hts _ (gb_mem fl_X1_21)) (fun _ h9 => h9) rfl dX1_throwAway_117 ?_
        refine lv_iload hx hb dX1_throwAway_120 (lv_at hl 4 rfl) ?_
        refine lv_iload hx hb dX1_throwAway_122 (lv_at hl 1 rfl) ?_
        obtain ⟨q13, e14, h⟩ := ob h
        refine fr_v (M := (wrapsW cyI w0 w1 w2 w3 w4 w5 w6 w7 w8 w9 w10 number heldKeys heldWhats closers closerMakes stands)) (M' := (wrapsW cyI w0 w1 w2 w3 w4 w5 w6 w7 w8 w9 w10 number heldKeys heldWhats closers closerMakes q13)) (L' := (houseW cyI h0 t0 t1 t2 t3 t4 t5 t6 t7 t8 w0 w1 w2 w3 w4 w5 w6 w7 w8 w9 w10 mostWear keys boxes q11.1 q11.2 parents makes wears keysOfBoxes number heldKeys heldWhats closers closerMakes q13)) (va_runV (As := [.int y4, .int z0]) (rest := []) ⟨hx, hb, hml, hown, hts⟩ (mX6_burnHolding l dC dI cyI cyO cyL w0 w1 w2 w3 w4 w5 w6 w7 w8 w9 w10 number heldKeys heldWhats closers closerMakes stands y4 z0 _ q13 e14) (cwV 2 hts (gV ml_X1_112 im_X6_burnHolding se_X6_burnHolding in_X6 co_X6_burnHolding) rfl rfl rfl (by decide +kernel) ⟨Nat.le_of_ble_eq_true rfl, Nat.le_of_ble_eq_true rfl⟩) (cP_V hK hP hD [10, 11, 12, 13, 14, 15, 16, 17, 18, 19, 20] rfl rfl 10 rfl rfl) rfl rfl hl.1 rfl (lv_room (Nat.le_of_ble_eq_true rfl)) dX1_throwAway_124 ⟨Nat.zero_le _, Nat.zero_le _⟩) hP hD hS hA [10, 11, 12, 13, 14, 15, 16, 17, 18, 19, 20] rfl [(false, 0), (false, 1), (false, 2), (false, 3), (false, 4), (false, 5), (false, 6), (false, 7), (false, 8), (false, 9), (true, 0), (true, 1), (true, 2), (true, 3), (true, 4), (true, 5), (true, 6), (true, 7), (true, 8), (true, 9), (true, 10)] rfl rfl rfl (fun H locs hP hD hS => ?_)
        refine lv_aload_n hx hb dX1_throwAway_127 rfl (lv_at hl 2 rfl) ?_
        refine lv_iload_n hx hb dX1_throwAway_128 rfl (lv_at hl 3 rfl) ?_
        obtain ⟨q15, e16, h⟩ := ob h
        refine fr_v (M := (houseW cyI h0 t0 t1 t2 t3 t4 t5 t6 t7 t8 w0 w1 w2 w3 w4 w5 w6 w7 w8 w9 w10 mostWear keys boxes q11.1 q11.2 parents makes wears keysOfBoxes number heldKeys heldWhats closers closerMakes q13)) (M' := (houseW cyI h0 t0 t1 t2 t3 t4 t5 t6 t7 t8 w0 w1 w2 w3 w4 w5 w6 w7 w8 w9 w10 mostWear keys boxes q11.1 q11.2 parents q15.1 q15.2.1 keysOfBoxes number heldKeys heldWhats closers closerMakes q15.2.2)) (L' := (houseW cyI h0 t0 t1 t2 t3 t4 t5 t6 t7 t8 w0 w1 w2 w3 w4 w5 w6 w7 w8 w9 w10 mostWear keys boxes q11.1 q11.2 parents q15.1 q15.2.1 keysOfBoxes number heldKeys heldWhats closers closerMakes q15.2.2)) (va_runV (As := [.int y3]) (rest := []) ⟨hx, hb, hml, hown, hts⟩ (mX1_startNextMakes l dC dI cyI cyO cyL h0 t0 t1 t2 t3 t4 t5 t6 t7 t8 w0 w1 w2 w3 w4 w5 w6 w7 w8 w9 w10 mostWear keys boxes q11.1 q11.2 parents makes wears keysOfBoxes number heldKeys heldWhats closers closerMakes q13 y3 _ q15 e16) (cwV 1 hts (gV ml_X1_86 im_X1_startNextMakes se_X1_startNextMakes in_X1 co_X1_startNextMakes) rfl rfl rfl (by decide +kernel) ⟨Nat.le_of_ble_eq_true rfl, Nat.le_of_ble_eq_true rfl⟩) (cP_V hK hP hD [0, 1, 2, 3, 4, 5, 6, 7, 8, 9, 10, 11, 12, 13, 14, 15, 16, 17, 18, 19, 20] rfl rfl 0 rfl rfl) rfl rfl hl.1 rfl (lv_room (Nat.le_of_ble_eq_true rfl)) dX1_throwAway_129 ⟨Nat.zero_le _, Nat.zero_le _⟩) hP hD hS hA [0, 1, 2, 3, 4, 5, 6, 7, 8, 9, 10, 11, 12, 13, 14, 15, 16, 17, 18, 19, 20] rfl [(true, 0), (true, 1), (true, 2), (true, 3), (true, 4), (true, 5), (true, 6), (true, 7), (true, 8), (true, 9), (true, 10), (true, 11), (true, 12), (true, 13), (true, 14), (true, 15), (true, 16), (true, 17), (true, 18), (true, 19), (true, 20)] rfl rfl rfl (fun H locs hP hD hS => ?_)
        refine lv_iconst (v := 0) hx hb dX1_throwAway_132 (by decide) ?_
        refine lv_istore (lv' := [(7, .int 0), (6, .int q5), (5, .int z0), (0, .ref h0), (3, .int y3), (4, .int y4)]) hx hb dX1_throwAway_133 hl (by decide) rfl (fun ls hl => ?_)
        exact kB135 6000 mostWear keys boxes q11.1 q11.2 parents q15.1 q15.2.1 keysOfBoxes number heldKeys heldWhats closers closerMakes q15.2.2 y3 q5 0 h _ _ hP hD hS ls (lv_sub hl [3, 4, 1, 0] rfl)
      · have h := (if_pos c10).symm.trans h
        refine lv_bipush (v := (-5)) hx hb dX1_throwAway_102 (by decide) ?_
        obtain rfl := Option.some.inj h
        exact e_i hx hb hr hlocks hP hS dX1_throwAway_104
    · have h := (if_pos c7).symm.trans h
      refine lv_bipush (v := (-4)) hx hb dX1_throwAway_87 (by decide) ?_
      obtain rfl := Option.some.inj h
      exact e_i hx hb hr hlocks hP hS dX1_throwAway_89
  have hl := lv_entry ([.ref h0, .int x1, .int x2]) (n := 8) (Nat.le_of_ble_eq_true rfl)
  rw [lg_entry_eq]
  generalize (lg_sl ([.ref h0, .int x1, .int x2]) ++ List.replicate (8 - (lg_sl ([.ref h0, .int x1, .int x2])).length) Slot.unset).toArray = ls at hl ⊢
  have hl : lv_has ls 8 [(0, .ref h0), (1, .int x1), (2, .int x2)] := hl
  unfold fX1_throwAway at h
  refine lv_aload_n hx hb dX1_throwAway_0 rfl (lv_at hl 0 rfl) ?_
  refine va_get (D := (dC, dI)) (ci := 1) (v := .ref t0) (C := RX1) (T := TX1) (N := 2) hx hb hts (fun w h9 => gb_mem (lay_X1 w h9)) hown hK.1 hP 0 rfl rfl 0 (by decide) (hts _ (gb_mem fl_X1_12)) (fun _ h9 => h9) rfl dX1_throwAway_1 ?_
  refine lv_iload_n hx hb dX1_throwAway_4 rfl (lv_at hl 1 rfl) ?_
  refine lv_iload_n hx hb dX1_throwAway_5 rfl (lv_at hl 2 rfl) ?_
  refine fr_ir (M := (treeW cyI t0 t1 t2 t3 t4 t5 t6 t7 t8 mostWear keys boxes liveKeys liveBoxes parents makes wears keysOfBoxes)) (va_runV (As := [.int x1, .int x2]) (rest := []) ⟨hx, hb, hml, hown, hts⟩ (mX5_isLive l dC dI cyI cyO cyL t0 t1 t2 t3 t4 t5 t6 t7 t8 mostWear keys boxes liveKeys liveBoxes parents makes wears keysOfBoxes x1 x2 _ (fX5_isLive liveKeys liveBoxes x1 x2) rfl) (cwV 2 hts (gV ml_X1_92 im_X5_isLive se_X5_isLive in_X5 co_X5_isLive) rfl rfl rfl (by decide +kernel) ⟨Nat.le_of_ble_eq_true rfl, Nat.le_of_ble_eq_true rfl⟩) (cP_V hK hP hD [1, 2, 3, 4, 5, 6, 7, 8, 9] rfl rfl 1 rfl rfl) rfl rfl hl.1 rfl (lv_room (Nat.le_of_ble_eq_true rfl)) dX1_throwAway_6 ⟨Nat.zero_le _, Nat.zero_le _⟩) hP hD hS hA [1, 2, 3, 4, 5, 6, 7, 8, 9] rfl (fun H locs hP hS => ?_)
  refine lv_if_ne (tgt := 14) hx hb dX1_throwAway_9 (by decide) (fun c17 => ?_) (fun c17 => ?_)
  · have h := (if_neg c17).symm.trans h
    refine lv_aload_n hx hb dX1_throwAway_14 rfl (lv_at hl 0 rfl) ?_
    refine va_get (D := (dC, dI)) (ci := 1) (v := .ref t0) (C := RX1) (T := TX1) (N := 2) hx hb hts (fun w h9 => gb_mem (lay_X1 w h9)) hown hK.1 hP 0 rfl rfl 0 (by decide) (hts _ (gb_mem fl_X1_12)) (fun _ h9 => h9) rfl dX1_throwAway_15 ?_
    refine lv_iload_n hx hb dX1_throwAway_18 rfl (lv_at hl 1 rfl) ?_
    refine lv_iload_n hx hb dX1_throwAway_19 rfl (lv_at hl 2 rfl) ?_
    obtain ⟨q18, e19, h⟩ := ob h
    refine fr_ir (M := (treeW cyI t0 t1 t2 t3 t4 t5 t6 t7 t8 mostWear keys boxes liveKeys liveBoxes parents makes wears keysOfBoxes)) (va_runV (As := [.int x1, .int x2]) (rest := []) ⟨hx, hb, hml, hown, hts⟩ (mX5_aboveThat l dC dI cyI cyO cyL t0 t1 t2 t3 t4 t5 t6 t7 t8 mostWear keys boxes liveKeys liveBoxes parents makes wears keysOfBoxes x1 x2 _ q18 e19) (cwV 2 hts (gV ml_X1_95 im_X5_aboveThat se_X5_aboveThat in_X5 co_X5_aboveThat) rfl rfl rfl (by decide +kernel) ⟨Nat.le_of_ble_eq_true rfl, Nat.le_of_ble_eq_true rfl⟩) (cP_V hK hP hD [1, 2, 3, 4, 5, 6, 7, 8, 9] rfl rfl 1 rfl rfl) rfl rfl hl.1 rfl (lv_room (Nat.le_of_ble_eq_true rfl)) dX1_throwAway_20 ⟨Nat.zero_le _, Nat.zero_le _⟩) hP hD hS hA [1, 2, 3, 4, 5, 6, 7, 8, 9] rfl (fun H locs hP hS => ?_)
    refine lv_istore_n (lv' := [(3, .int q18), (0, .ref h0), (1, .int x1), (2, .int x2)]) hx hb dX1_throwAway_23 rfl hl (by decide) rfl (fun ls hl => ?_)
    refine lv_iload_n hx hb dX1_throwAway_24 rfl (lv_at hl 2 rfl) ?_
    refine lv_if_ne (tgt := 39) hx hb dX1_throwAway_25 (by decide) (fun c20 => ?_) (fun c20 => ?_)
    · have h := (if_neg c20).symm.trans h
      refine lv_iconst (v := 0) hx hb dX1_throwAway_39 (by decide) ?_
      refine lv_istore (lv' := [(4, .int 0), (3, .int q18), (0, .ref h0), (1, .int x1), (2, .int x2)]) hx hb dX1_throwAway_40 hl (by decide) rfl (fun ls hl => ?_)
      refine lv_iload_n hx hb dX1_throwAway_42 rfl (lv_at hl 3 rfl) ?_
      refine lv_if_ne (tgt := 58) hx hb dX1_throwAway_43 (by decide) (fun c21 => ?_) (fun c21 => ?_)
      · have h := (if_neg c21).symm.trans h
        refine lv_iload_n hx hb dX1_throwAway_58 rfl (lv_at hl 4 rfl) ?_
        refine fr_ir (M := ([] : va_W)) (va_runSN (host := "HangingKeys") (As := [.int x2]) (rest := []) ⟨hx, hb, hml, hown, hts⟩ (mX7_setOf l dC dI cyI cyO cyL x2 _ (fX7_setOf x2) rfl) ⟨va_cnB 1 hts (gW co_X7_setOf) rfl rfl rfl (hK.2 _ nl_X1_66) (hts _ (gb_mem in_X7)) (by decide +kernel) ⟨Nat.le_of_ble_eq_true rfl, Nat.le_of_ble_eq_true rfl⟩, hts _ (gb_mem st_X7_setOf), trivial⟩ (cP_S hK hP hD [] rfl rfl) rfl rfl hl.1 rfl (lv_room (Nat.le_of_ble_eq_true rfl)) dX1_throwAway_59 ⟨Nat.zero_le _, Nat.zero_le _⟩) hP hD hS hA [] rfl (fun H locs hP hS => ?_)
        exact kB62 mostWear keys boxes liveKeys liveBoxes parents makes wears keysOfBoxes number heldKeys heldWhats closers closerMakes stands q18 0 (fX7_setOf x2) h _ _ hP hD hS ls (lv_sub hl [2, 1, 0] rfl)
      · have h := (if_pos c21).symm.trans h
        refine lv_aload_n hx hb dX1_throwAway_46 rfl (lv_at hl 2 rfl) ?_
        refine va_get (D := (dC, dI)) (ci := 1) (v := .ref t0) (C := RX1) (T := TX1) (N := 2) hx hb hts (fun w h9 => gb_mem (lay_X1 w h9)) hown hK.1 hP 0 rfl rfl 0 (by decide) (hts _ (gb_mem fl_X1_12)) (fun _ h9 => h9) rfl dX1_throwAway_47 ?_
        refine lv_iload hx hb dX1_throwAway_50 (lv_at hl 0 rfl) ?_
        obtain ⟨q22, e23, h⟩ := ob h
        refine fr_ir (M := (treeW cyI t0 t1 t2 t3 t4 t5 t6 t7 t8 mostWear keys boxes liveKeys liveBoxes parents makes wears keysOfBoxes)) (va_runV (As := [.int 0]) (rest := []) ⟨hx, hb, hml, hown, hts⟩ (mX5_liveBoxesOn l dC dI cyI cyO cyL t0 t1 t2 t3 t4 t5 t6 t7 t8 mostWear keys boxes liveKeys liveBoxes parents makes wears keysOfBoxes 0 _ q22 e23) (cwV 1 hts (gV ml_X1_102 im_X5_liveBoxesOn se_X5_liveBoxesOn in_X5 co_X5_liveBoxesOn) rfl rfl rfl (by decide +kernel) ⟨Nat.le_of_ble_eq_true rfl, Nat.le_of_ble_eq_true rfl⟩) (cP_V hK hP hD [1, 2, 3, 4, 5, 6, 7, 8, 9] rfl rfl 1 rfl rfl) rfl rfl hl.1 rfl (lv_room (Nat.le_of_ble_eq_true rfl)) dX1_throwAway_52 ⟨Nat.zero_le _, Nat.zero_le _⟩) hP hD hS hA [1, 2, 3, 4, 5, 6, 7, 8, 9] rfl (fun H locs hP hS => ?_)
        refine lv_goto (tgt := 62) hx hb dX1_throwAway_55 (by decide) ?_
        exact kB62 mostWear keys boxes liveKeys liveBoxes parents makes wears keysOfBoxes number heldKeys heldWhats closers closerMakes stands q18 0 q22 h _ _ hP hD hS ls (lv_sub hl [2, 1, 0] rfl)
    · have h := (if_pos c20).symm.trans h
      refine lv_aload_n hx hb dX1_throwAway_28 rfl (lv_at hl 1 rfl) ?_
      refine va_get (D := (dC, dI)) (ci := 1) (v := .ref t0) (C := RX1) (T := TX1) (N := 2) hx hb hts (fun w h9 => gb_mem (lay_X1 w h9)) hown hK.1 hP 0 rfl rfl 0 (by decide) (hts _ (gb_mem fl_X1_12)) (fun _ h9 => h9) rfl dX1_throwAway_29 ?_
      refine lv_iload_n hx hb dX1_throwAway_32 rfl (lv_at hl 3 rfl) ?_
      obtain ⟨q24, e25, h⟩ := ob h
      refine fr_ir (M := (treeW cyI t0 t1 t2 t3 t4 t5 t6 t7 t8 mostWear keys boxes liveKeys liveBoxes parents makes wears keysOfBoxes)) (va_runV (As := [.int x2]) (rest := []) ⟨hx, hb, hml, hown, hts⟩ (mX5_withAllBelow l dC dI cyI cyO cyL t0 t1 t2 t3 t4 t5 t6 t7 t8 mostWear keys boxes liveKeys liveBoxes parents makes wears keysOfBoxes x2 _ q24 e25) (cwV 1 hts (gV ml_X1_99 im_X5_withAllBelow se_X5_withAllBelow in_X5 co_X5_withAllBelow) rfl rfl rfl (by decide +kernel) ⟨Nat.le_of_ble_eq_true rfl, Nat.le_of_ble_eq_true rfl⟩) (cP_V hK hP hD [1, 2, 3, 4, 5, 6, 7, 8, 9] rfl rfl 1 rfl rfl) rfl rfl hl.1 rfl (lv_room (Nat.le_of_ble_eq_true rfl)) dX1_throwAway_33 ⟨Nat.zero_le _, Nat.zero_le _⟩) hP hD hS hA [1, 2, 3, 4, 5, 6, 7, 8, 9] rfl (fun H locs hP hS => ?_)
      refine lv_goto (tgt := 40) hx hb dX1_throwAway_36 (by decide) ?_
      refine lv_istore (lv' := [(4, .int q24), (3, .int q18), (0, .ref h0), (1, .int x1), (2, .int x2)]) hx hb dX1_throwAway_40 hl (by decide) rfl (fun ls hl => ?_)
      refine lv_iload_n hx hb dX1_throwAway_42 rfl (lv_at hl 3 rfl) ?_
      refine lv_if_ne (tgt := 58) hx hb dX1_throwAway_43 (by decide) (fun c26 => ?_) (fun c26 => ?_)
      · have h := (if_neg c26).symm.trans h
        refine lv_iload_n hx hb dX1_throwAway_58 rfl (lv_at hl 4 rfl) ?_
        refine fr_ir (M := ([] : va_W)) (va_runSN (host := "HangingKeys") (As := [.int x2]) (rest := []) ⟨hx, hb, hml, hown, hts⟩ (mX7_setOf l dC dI cyI cyO cyL x2 _ (fX7_setOf x2) rfl) ⟨va_cnB 1 hts (gW co_X7_setOf) rfl rfl rfl (hK.2 _ nl_X1_66) (hts _ (gb_mem in_X7)) (by decide +kernel) ⟨Nat.le_of_ble_eq_true rfl, Nat.le_of_ble_eq_true rfl⟩, hts _ (gb_mem st_X7_setOf), trivial⟩ (cP_S hK hP hD [] rfl rfl) rfl rfl hl.1 rfl (lv_room (Nat.le_of_ble_eq_true rfl)) dX1_throwAway_59 ⟨Nat.zero_le _, Nat.zero_le _⟩) hP hD hS hA [] rfl (fun H locs hP hS => ?_)
        exact kB62 mostWear keys boxes liveKeys liveBoxes parents makes wears keysOfBoxes number heldKeys heldWhats closers closerMakes stands q18 q24 (fX7_setOf x2) h _ _ hP hD hS ls (lv_sub hl [2, 1, 0] rfl)
      · have h := (if_pos c26).symm.trans h
        refine lv_aload_n hx hb dX1_throwAway_46 rfl (lv_at hl 2 rfl) ?_
        refine va_get (D := (dC, dI)) (ci := 1) (v := .ref t0) (C := RX1) (T := TX1) (N := 2) hx hb hts (fun w h9 => gb_mem (lay_X1 w h9)) hown hK.1 hP 0 rfl rfl 0 (by decide) (hts _ (gb_mem fl_X1_12)) (fun _ h9 => h9) rfl dX1_throwAway_47 ?_
        refine lv_iload hx hb dX1_throwAway_50 (lv_at hl 0 rfl) ?_
        obtain ⟨q27, e28, h⟩ := ob h
        refine fr_ir (M := (treeW cyI t0 t1 t2 t3 t4 t5 t6 t7 t8 mostWear keys boxes liveKeys liveBoxes parents makes wears keysOfBoxes)) (va_runV (As := [.int q24]) (rest := []) ⟨hx, hb, hml, hown, hts⟩ (mX5_liveBoxesOn l dC dI cyI cyO cyL t0 t1 t2 t3 t4 t5 t6 t7 t8 mostWear keys boxes liveKeys liveBoxes parents makes wears keysOfBoxes q24 _ q27 e28) (cwV 1 hts (gV ml_X1_102 im_X5_liveBoxesOn se_X5_liveBoxesOn in_X5 co_X5_liveBoxesOn) rfl rfl rfl (by decide +kernel) ⟨Nat.le_of_ble_eq_true rfl, Nat.le_of_ble_eq_true rfl⟩) (cP_V hK hP hD [1, 2, 3, 4, 5, 6, 7, 8, 9] rfl rfl 1 rfl rfl) rfl rfl hl.1 rfl (lv_room (Nat.le_of_ble_eq_true rfl)) dX1_throwAway_52 ⟨Nat.zero_le _, Nat.zero_le _⟩) hP hD hS hA [1, 2, 3, 4, 5, 6, 7, 8, 9] rfl (fun H locs hP hS => ?_)
        refine lv_goto (tgt := 62) hx hb dX1_throwAway_55 (by decide) ?_
        exact kB62 mostWear keys boxes liveKeys liveBoxes parents makes wears keysOfBoxes number heldKeys heldWhats closers closerMakes stands q18 q24 q27 h _ _ hP hD hS ls (lv_sub hl [2, 1, 0] rfl)
  · have h := (if_pos c17).symm.trans h
    refine lv_iconst (v := (-1)) hx hb dX1_throwAway_12 (by decide) ?_
    obtain rfl := Option.some.inj h
    exact e_i hx hb hr hlocks hP hS dX1_throwAway_13
noncomputable def fX1_wrapsByThrowing_b36 (mostWear : Int32) (keys : Int32) (boxes : Int32) (liveKeys : Int32) (liveBoxes : Int32) (parents : Nat → Int32) (keysOfBoxes : Nat → Int32) (y1 : Int32) (y2 : Int32) (y3 : Int32) (z0 : Int32) : Option (Int32) :=
  (if y1 = 0 then ((fX1_canWrapAgain mostWear keys boxes liveKeys liveBoxes parents keysOfBoxes y3 z0 0).bind fun q7 => (if q7 = 0 then (some (-5)) else ((fX1_hangingWithout keys boxes liveKeys liveBoxes parents keysOfBoxes y3 z0 0).bind fun q10 => (some q10)))) else ((fX1_canWrapAgain mostWear keys boxes liveKeys liveBoxes parents keysOfBoxes y3 z0 (fX7_setOf y2)).bind fun q2 => (if q2 = 0 then (some (-5)) else ((fX1_hangingWithout keys boxes liveKeys liveBoxes parents keysOfBoxes y3 z0 (fX7_setOf y2)).bind fun q5 => (some q5)))))

noncomputable def fX1_wrapsByThrowing (mostWear : Int32) (keys : Int32) (boxes : Int32) (liveKeys : Int32) (liveBoxes : Int32) (parents : Nat → Int32) (keysOfBoxes : Nat → Int32) (x1 : Int32) (x2 : Int32) : Option (Int32) :=
  (if (fX5_isLive liveKeys liveBoxes x1 x2) = 0 then (some (-1)) else ((fX5_aboveThat parents keysOfBoxes x1 x2).bind fun q13 => (if x1 = 0 then fX1_wrapsByThrowing_b36 mostWear keys boxes liveKeys liveBoxes parents keysOfBoxes x1 x2 q13 (fX7_setOf x2) else fX1_wrapsByThrowing_b36 mostWear keys boxes liveKeys liveBoxes parents keysOfBoxes x1 x2 q13 0)))
set_option maxHeartbeats 1000000 in
set_option maxRecDepth 100000 in
theorem mX1_wrapsByThrowing (l : Launch) (dC : Nat → ClassId) (dI : Nat → Nat → Nat) (cyI cyO cyL : ClassId) (h0 t0 t1 t2 t3 t4 t5 t6 t7 t8 w0 w1 w2 w3 w4 w5 w6 w7 w8 w9 w10 : Nat) (mostWear : Int32) (keys : Int32) (boxes : Int32) (liveKeys : Int32) (liveBoxes : Int32) (parents : Nat → Int32) (makes : Nat → Int32) (wears : Nat → Int32) (keysOfBoxes : Nat → Int32) (number : Int32) (heldKeys : Nat → Int32) (heldWhats : Nat → Int32) (closers : Nat → Int32) (closerMakes : Nat → Int32) (stands : Nat → Int32) (x1 : Int32) (x2 : Int32) (sz : Nat) (res : Int32) (h : fX1_wrapsByThrowing mostWear keys boxes liveKeys liveBoxes parents keysOfBoxes x1 x2 = some res) : Met l yX1_wrapsByThrowing (wsG yX1_wrapsByThrowing cX1_wrapsByThrowing 6 (some .int)) ({ frames := 4, cells := 0, slots := 0, locals := 91 }) (cP dC dI cyI cyO cyL sz [.ref h0, .int x1, .int x2] (houseW cyI h0 t0 t1 t2 t3 t4 t5 t6 t7 t8 w0 w1 w2 w3 w4 w5 w6 w7 w8 w9 w10 mostWear keys boxes liveKeys liveBoxes parents makes wears keysOfBoxes number heldKeys heldWhats closers closerMakes stands)) (cI dC dI res (houseW cyI h0 t0 t1 t2 t3 t4 t5 t6 t7 t8 w0 w1 w2 w3 w4 w5 w6 w7 w8 w9 w10 mostWear keys boxes liveKeys liveBoxes parents makes wears keysOfBoxes number heldKeys heldWhats closers closerMakes stands) (va_A (houseW cyI h0 t0 t1 t2 t3 t4 t5 t6 t7 t8 w0 w1 w2 w3 w4 w5 w6 w7 w8 w9 w10 mostWear keys boxes liveKeys liveBoxes parents makes wears keysOfBoxes number heldKeys heldWhats closers closerMakes stands) sz)) 0 0 (va_A (houseW cyI h0 t0 t1 t2 t3 t4 t5 t6 t7 t8 w0 w1 w2 w3 w4 w5 w6 w7 w8 w9 w10 mostWear keys boxes liveKeys liveBoxes parents makes wears keysOfBoxes number heldKeys heldWhats closers closerMakes stands) sz) := by
  refine Met.ofW (cc := cX1_wrapsByThrowing) (maxL := 6) (ret := (some .int)) (by decide) rfl ?_
  intro p e s m args below meth c s₁ B hml hv
  obtain ⟨rfl, hsz, hP, hK, hD0⟩ := hv
  have hx := B.exec
  have hb := B.bytes
  have hr := B.returns
  have hts := atoms_spec (ws := wsG yX1_wrapsByThrowing cX1_wrapsByThrowing 6 (some .int)) B.pre
  have hown : s.vm.findClass RX1 = some m.cls := findClass_of_methodNamed B.named
  have hlocks := B.notSynchronized
  subst hsz
  have hD := hD0.self (sz := s.heap.size)
  generalize hAe : va_A (houseW cyI h0 t0 t1 t2 t3 t4 t5 t6 t7 t8 w0 w1 w2 w3 w4 w5 w6 w7 w8 w9 w10 mostWear keys boxes liveKeys liveBoxes parents makes wears keysOfBoxes number heldKeys heldWhats closers closerMakes stands) s.heap.size = A at hD ⊢
  have hA : ∀ q : Nat, s.heap.size ≤ q → A q := fun q h => by rw [← hAe]; exact Or.inr h
  have hS : va_S A s.heap s.heap [] := va_S.rf
  have kB36 : ∀ (mostWear : Int32) (keys : Int32) (boxes : Int32) (liveKeys : Int32) (liveBoxes : Int32) (parents : Nat → Int32) (keysOfBoxes : Nat → Int32) (y1 : Int32) (y2 : Int32) (y3 : Int32) (z0 : Int32), fX1_wrapsByThrowing_b36 mostWear keys boxes liveKeys liveBoxes parents keysOfBoxes y1 y2 y3 z0 = some res → ∀ (H : Heap) (locs : List Loc), va_P (dC, dI) vwCl (houseW cyI h0 t0 t1 t2 t3 t4 t5 t6 t7 t8 w0 w1 w2 w3 w4 w5 w6 w7 w8 w9 w10 mostWear keys boxes liveKeys liveBoxes parents makes wears keysOfBoxes number heldKeys heldWhats closers closerMakes stands) H → va_D A (houseW cyI h0 t0 t1 t2 t3 t4 t5 t6 t7 t8 w0 w1 w2 w3 w4 w5 w6 w7 w8 w9 w10 mostWear keys boxes liveKeys liveBoxes parents makes wears keysOfBoxes number heldKeys heldWhats closers closerMakes stands) → va_S A s.heap H locs → ∀ ls : Array Slot, lv_has ls 6 [(0, .ref h0), (1, .int y1), (2, .int y2), (3, .int y3)] → W p l e (headSpec (wsG yX1_wrapsByThrowing cX1_wrapsByThrowing 6 (some .int)) ({ frames := 4, cells := 0, slots := 0, locals := 91 })).room s m (([.ref h0, .int x1, .int x2] : List Value).toArray) below meth c H locs 0 0 (MQ below (cI dC dI res (houseW cyI h0 t0 t1 t2 t3 t4 t5 t6 t7 t8 w0 w1 w2 w3 w4 w5 w6 w7 w8 w9 w10 mostWear keys boxes liveKeys liveBoxes parents makes wears keysOfBoxes number heldKeys heldWhats closers closerMakes stands) A) ([.ref h0, .int x1, .int x2] : List Value).toArray s 0 0 A) (F0 m 36 ls [.int z0]) := by
    intro mostWear keys boxes liveKeys liveBoxes parents keysOfBoxes y1 y2 y3 z0 h H locs hP hD hS ls hl
    unfold fX1_wrapsByThrowing_b36 at h
    refine lv_istore (lv' := [(4, .int z0), (0, .ref h0), (1, .int y1), (2, .int y2), (3, .int y3)]) hx hb dX1_wrapsByThrowing_36 hl (by decide) rfl (fun ls hl => ?_)
    refine lv_iload_n hx hb dX1_wrapsByThrowing_38 rfl (lv_at hl 2 rfl) ?_
    refine lv_if_ne (tgt := 46) hx hb dX1_wrapsByThrowing_39 (by decide) (fun c1 => ?_) (fun c1 => ?_)
    · have h := (if_neg c1).symm.trans h
      refine lv_iload_n hx hb dX1_wrapsByThrowing_46 rfl (lv_at hl 3 rfl) ?_
      refine fr_ir (M := ([] : va_W)) (va_runSN (host := "HangingKeys") (As := [.int y2]) (rest := []) ⟨hx, hb, hml, hown, hts⟩ (mX7_setOf l dC dI cyI cyO cyL y2 _ (fX7_setOf y2) rfl) ⟨va_cnB 1 hts (gW co_X7_setOf) rfl rfl rfl (hK.2 _ nl_X1_66) (hts _ (gb_mem in_X7)) (by decide +kernel) ⟨Nat.le_of_ble_eq_true rfl, Nat.le_of_ble_eq_true rfl⟩, hts _ (gb_mem st_X7_setOf), trivial⟩ (cP_S hK hP hD [] rfl rfl) rfl rfl hl.1 rfl (lv_room (Nat.le_of_ble_eq_true rfl)) dX1_wrapsByThrowing_47 ⟨Nat.zero_le _, Nat.zero_le _⟩) hP hD hS hA [] rfl (fun H locs hP hS => ?_)
      refine lv_istore (lv' := [(5, .int (fX7_setOf y2)), (4, .int z0), (0, .ref h0), (1, .int y1), (2, .int y2), (3, .int y3)]) hx hb dX1_wrapsByThrowing_50 hl (by decide) rfl (fun ls hl => ?_)
      refine lv_aload_n hx hb dX1_wrapsByThrowing_52 rfl (lv_at hl 2 rfl) ?_
      refine lv_iload_n hx hb dX1_wrapsByThrowing_53 rfl (lv_at hl 5 rfl) ?_
      refine lv_iload hx hb dX1_wrapsByThrowing_54 (lv_at hl 1 rfl) ?_
      refine lv_iload hx hb dX1_wrapsByThrowing_56 (lv_at hl 0 rfl) ?_
      obtain ⟨q2, e3, h⟩ := ob h
      refine fr_ir (M := (houseW cyI h0 t0 t1 t2 t3 t4 t5 t6 t7 t8 w0 w1 w2 w3 w4 w5 w6 w7 w8 w9 w10 mostWear keys boxes liveKeys liveBoxes parents makes wears keysOfBoxes number heldKeys heldWhats closers closerMakes stands)) (va_runV (As := [.int y3, .int z0, .int (fX7_setOf y2)]) (rest := []) ⟨hx, hb, hml, hown, hts⟩ (mX1_canWrapAgain l dC dI cyI cyO cyL h0 t0 t1 t2 t3 t4 t5 t6 t7 t8 w0 w1 w2 w3 w4 w5 w6 w7 w8 w9 w10 mostWear keys boxes liveKeys liveBoxes parents makes wears keysOfBoxes number heldKeys heldWhats closers closerMakes stands y3 z0 (fX7_setOf y2) _ q2 e3) (cwV 3 hts (gV ml_X1_105 im_X1_canWrapAgain se_X1_canWrapAgain in_X1 co_X1_canWrapAgain) rfl rfl rfl (by decide +kernel) ⟨Nat.le_of_ble_eq_true rfl, Nat.le_of_ble_eq_true rfl⟩) (cP_V hK hP hD [0, 1, 2, 3, 4, 5, 6, 7, 8, 9, 10, 11, 12, 13, 14, 15, 16, 17, 18, 19, 20] rfl rfl 0 rfl rfl) rfl rfl hl.1 rfl (lv_room (Nat.le_of_ble_eq_true rfl)) dX1_wrapsByThrowing_58 ⟨Nat.zero_le _, Nat.zero_le _⟩) hP hD hS hA [0, 1, 2, 3, 4, 5, 6, 7, 8, 9, 10, 11, 12, 13, 14, 15, 16, 17, 18, 19, 20] rfl (fun H locs hP hS => ?_)
      refine lv_if_eq (tgt := 76) hx hb dX1_wrapsByThrowing_61 (by decide) (fun c4 => ?_) (fun c4 => ?_)
      · have h := (if_pos c4).symm.trans h
        refine lv_bipush (v := (-5)) hx hb dX1_wrapsByThrowing_76 (by decide) ?_
        obtain rfl := Option.some.inj h
        exact e_i hx hb hr hlocks hP hS dX1_wrapsByThrowing_78
      · have h := (if_neg c4).symm.trans h
        refine lv_aload_n hx hb dX1_wrapsByThrowing_64 rfl (lv_at hl 2 rfl) ?_
        refine lv_iload_n hx hb dX1_wrapsByThrowing_65 rfl (lv_at hl 5 rfl) ?_
        refine lv_iload hx hb dX1_wrapsByThrowing_66 (lv_at hl 1 rfl) ?_
        refine lv_iload hx hb dX1_wrapsByThrowing_68 (lv_at hl 0 rfl) ?_
        obtain ⟨q5, e6, h⟩ := ob h
        refine fr_ir (M := (houseW cyI h0 t0 t1 t2 t3 t4 t5 t6 t7 t8 w0 w1 w2 w3 w4 w5 w6 w7 w8 w9 w10 mostWear keys boxes liveKeys liveBoxes parents makes wears keysOfBoxes number heldKeys heldWhats closers closerMakes stands)) (va_runV (As := [.int y3, .int z0, .int (fX7_setOf y2)]) (rest := []) ⟨hx, hb, hml, hown, hts⟩ (mX1_hangingWithout l dC dI cyI cyO cyL h0 t0 t1 t2 t3 t4 t5 t6 t7 t8 w0 w1 w2 w3 w4 w5 w6 w7 w8 w9 w10 mostWear keys boxes liveKeys liveBoxes parents makes wears keysOfBoxes number heldKeys heldWhats closers closerMakes stands y3 z0 (fX7_setOf y2) _ q5 e6) (cwV 3 hts (gV ml_X1_79 im_X1_hangingWithout se_X1_hangingWithout in_X1 co_X1_hangingWithout) rfl rfl rfl (by decide +kernel) ⟨Nat.le_of_ble_eq_true rfl, Nat.le_of_ble_eq_true rfl⟩) (cP_V hK hP hD [0, 1, 2, 3, 4, 5, 6, 7, 8, 9, 10, 11, 12, 13, 14, 15, 16, 17, 18, 19, 20] rfl rfl 0 rfl rfl) rfl rfl hl.1 rfl (lv_room (Nat.le_of_ble_eq_true rfl)) dX1_wrapsByThrowing_70 ⟨Nat.zero_le _, Nat.zero_le _⟩) hP hD hS hA [0, 1, 2, 3, 4, 5, 6, 7, 8, 9, 10, 11, 12, 13, 14, 15, 16, 17, 18, 19, 20] rfl (fun H locs hP hS => ?_)
        refine lv_goto (tgt := 78) hx hb dX1_wrapsByThrowing_73 (by decide) ?_
        obtain rfl := Option.some.inj h
        exact e_i hx hb hr hlocks hP hS dX1_wrapsByThrowing_78
    · have h := (if_pos c1).symm.trans h
      refine lv_iconst (v := 0) hx hb dX1_wrapsByThrowing_42 (by decide) ?_
      refine lv_goto (tgt := 50) hx hb dX1_wrapsByThrowing_43 (by decide) ?_
      refine lv_istore (lv' := [(5, .int 0), (4, .int z0), (0, .ref h0), (1, .int y1), (2, .int y2), (3, .int y3)]) hx hb dX1_wrapsByThrowing_50 hl (by decide) rfl (fun ls hl => ?_)
      refine lv_aload_n hx hb dX1_wrapsByThrowing_52 rfl (lv_at hl 2 rfl) ?_
      refine lv_iload_n hx hb dX1_wrapsByThrowing_53 rfl (lv_at hl 5 rfl) ?_
      refine lv_iload hx hb dX1_wrapsByThrowing_54 (lv_at hl 1 rfl) ?_
      refine lv_iload hx hb dX1_wrapsByThrowing_56 (lv_at hl 0 rfl) ?_
      obtain ⟨q7, e8, h⟩ := ob h
      refine fr_ir (M := (houseW cyI h0 t0 t1 t2 t3 t4 t5 t6 t7 t8 w0 w1 w2 w3 w4 w5 w6 w7 w8 w9 w10 mostWear keys boxes liveKeys liveBoxes parents makes wears keysOfBoxes number heldKeys heldWhats closers closerMakes stands)) (va_runV (As := [.int y3, .int z0, .int 0]) (rest := []) ⟨hx, hb, hml, hown, hts⟩ (mX1_canWrapAgain l dC dI cyI cyO cyL h0 t0 t1 t2 t3 t4 t5 t6 t7 t8 w0 w1 w2 w3 w4 w5 w6 w7 w8 w9 w10 mostWear keys boxes liveKeys liveBoxes parents makes wears keysOfBoxes number heldKeys heldWhats closers closerMakes stands y3 z0 0 _ q7 e8) (cwV 3 hts (gV ml_X1_105 im_X1_canWrapAgain se_X1_canWrapAgain in_X1 co_X1_canWrapAgain) rfl rfl rfl (by decide +kernel) ⟨Nat.le_of_ble_eq_true rfl, Nat.le_of_ble_eq_true rfl⟩) (cP_V hK hP hD [0, 1, 2, 3, 4, 5, 6, 7, 8, 9, 10, 11, 12, 13, 14, 15, 16, 17, 18, 19, 20] rfl rfl 0 rfl rfl) rfl rfl hl.1 rfl (lv_room (Nat.le_of_ble_eq_true rfl)) dX1_wrapsByThrowing_58 ⟨Nat.zero_le _, Nat.zero_le _⟩) hP hD hS hA [0, 1, 2, 3, 4, 5, 6, 7, 8, 9, 10, 11, 12, 13, 14, 15, 16, 17, 18, 19, 20] rfl (fun H locs hP hS => ?_)
      refine lv_if_eq (tgt := 76) hx hb dX1_wrapsByThrowing_61 (by decide) (fun c9 => ?_) (fun c9 => ?_)
      · have h := (if_pos c9).symm.trans h
        refine lv_bipush (v := (-5)) hx hb dX1_wrapsByThrowing_76 (by decide) ?_
        obtain rfl := Option.some.inj h
        exact e_i hx hb hr hlocks hP hS dX1_wrapsByThrowing_78
      · have h := (if_neg c9).symm.trans h
        refine lv_aload_n hx hb dX1_wrapsByThrowing_64 rfl (lv_at hl 2 rfl) ?_
        refine lv_iload_n hx hb dX1_wrapsByThrowing_65 rfl (lv_at hl 5 rfl) ?_
        refine lv_iload hx hb dX1_wrapsByThrowing_66 (lv_at hl 1 rfl) ?_
        refine lv_iload hx hb dX1_wrapsByThrowing_68 (lv_at hl 0 rfl) ?_
        obtain ⟨q10, e11, h⟩ := ob h
        refine fr_ir (M := (houseW cyI h0 t0 t1 t2 t3 t4 t5 t6 t7 t8 w0 w1 w2 w3 w4 w5 w6 w7 w8 w9 w10 mostWear keys boxes liveKeys liveBoxes parents makes wears keysOfBoxes number heldKeys heldWhats closers closerMakes stands)) (va_runV (As := [.int y3, .int z0, .int 0]) (rest := []) ⟨hx, hb, hml, hown, hts⟩ (mX1_hangingWithout l dC dI cyI cyO cyL h0 t0 t1 t2 t3 t4 t5 t6 t7 t8 w0 w1 w2 w3 w4 w5 w6 w7 w8 w9 w10 mostWear keys boxes liveKeys liveBoxes parents makes wears keysOfBoxes number heldKeys heldWhats closers closerMakes stands y3 z0 0 _ q10 e11) (cwV 3 hts (gV ml_X1_79 im_X1_hangingWithout se_X1_hangingWithout in_X1 co_X1_hangingWithout) rfl rfl rfl (by decide +kernel) ⟨Nat.le_of_ble_eq_true rfl, Nat.le_of_ble_eq_true rfl⟩) (cP_V hK hP hD [0, 1, 2, 3, 4, 5, 6, 7, 8, 9, 10, 11, 12, 13, 14, 15, 16, 17, 18, 19, 20] rfl rfl 0 rfl rfl) rfl rfl hl.1 rfl (lv_room (Nat.le_of_ble_eq_true rfl)) dX1_wrapsByThrowing_70 ⟨Nat.zero_le _, Nat.zero_le _⟩) hP hD hS hA [0, 1, 2, 3, 4, 5, 6, 7, 8, 9, 10, 11, 12, 13, 14, 15, 16, 17, 18, 19, 20] rfl (fun H locs hP hS => ?_)
        refine lv_goto (tgt := 78) hx hb dX1_wrapsByThrowing_73 (by decide) ?_
        obtain rfl := Option.some.inj h
        exact e_i hx hb hr hlocks hP hS dX1_wrapsByThrowing_78
  have hl := lv_entry ([.ref h0, .int x1, .int x2]) (n := 6) (Nat.le_of_ble_eq_true rfl)
  rw [lg_entry_eq]
  generalize (lg_sl ([.ref h0, .int x1, .int x2]) ++ List.replicate (6 - (lg_sl ([.ref h0, .int x1, .int x2])).length) Slot.unset).toArray = ls at hl ⊢
  have hl : lv_has ls 6 [(0, .ref h0), (1, .int x1), (2, .int x2)] := hl
  unfold fX1_wrapsByThrowing at h
  refine lv_aload_n hx hb dX1_wrapsByThrowing_0 rfl (lv_at hl 0 rfl) ?_
  refine va_get (D := (dC, dI)) (ci := 1) (v := .ref t0) (C := RX1) (T := TX1) (N := 2) hx hb hts (fun w h9 => gb_mem (lay_X1 w h9)) hown hK.1 hP 0 rfl rfl 0 (by decide) (hts _ (gb_mem fl_X1_12)) (fun _ h9 => h9) rfl dX1_wrapsByThrowing_1 ?_
  refine lv_iload_n hx hb dX1_wrapsByThrowing_4 rfl (lv_at hl 1 rfl) ?_
  refine lv_iload_n hx hb dX1_wrapsByThrowing_5 rfl (lv_at hl 2 rfl) ?_
  refine fr_ir (M := (treeW cyI t0 t1 t2 t3 t4 t5 t6 t7 t8 mostWear keys boxes liveKeys liveBoxes parents makes wears keysOfBoxes)) (va_runV (As := [.int x1, .int x2]) (rest := []) ⟨hx, hb, hml, hown, hts⟩ (mX5_isLive l dC dI cyI cyO cyL t0 t1 t2 t3 t4 t5 t6 t7 t8 mostWear keys boxes liveKeys liveBoxes parents makes wears keysOfBoxes x1 x2 _ (fX5_isLive liveKeys liveBoxes x1 x2) rfl) (cwV 2 hts (gV ml_X1_92 im_X5_isLive se_X5_isLive in_X5 co_X5_isLive) rfl rfl rfl (by decide +kernel) ⟨Nat.le_of_ble_eq_true rfl, Nat.le_of_ble_eq_true rfl⟩) (cP_V hK hP hD [1, 2, 3, 4, 5, 6, 7, 8, 9] rfl rfl 1 rfl rfl) rfl rfl hl.1 rfl (lv_room (Nat.le_of_ble_eq_true rfl)) dX1_wrapsByThrowing_6 ⟨Nat.zero_le _, Nat.zero_le _⟩) hP hD hS hA [1, 2, 3, 4, 5, 6, 7, 8, 9] rfl (fun H locs hP hS => ?_)
  refine lv_if_ne (tgt := 14) hx hb dX1_wrapsByThrowing_9 (by decide) (fun c12 => ?_) (fun c12 => ?_)
  · have h := (if_neg c12).symm.trans h
    refine lv_aload_n hx hb dX1_wrapsByThrowing_14 rfl (lv_at hl 0 rfl) ?_
    refine va_get (D := (dC, dI)) (ci := 1) (v := .ref t0) (C := RX1) (T := TX1) (N := 2) hx hb hts (fun w h9 => gb_mem (lay_X1 w h9)) hown hK.1 hP 0 rfl rfl 0 (by decide) (hts _ (gb_mem fl_X1_12)) (fun _ h9 => h9) rfl dX1_wrapsByThrowing_15 ?_
    refine lv_iload_n hx hb dX1_wrapsByThrowing_18 rfl (lv_at hl 1 rfl) ?_
    refine lv_iload_n hx hb dX1_wrapsByThrowing_19 rfl (lv_at hl 2 rfl) ?_
    obtain ⟨q13, e14, h⟩ := ob h
    refine fr_ir (M := (treeW cyI t0 t1 t2 t3 t4 t5 t6 t7 t8 mostWear keys boxes liveKeys liveBoxes parents makes wears keysOfBoxes)) (va_runV (As := [.int x1, .int x2]) (rest := []) ⟨hx, hb, hml, hown, hts⟩ (mX5_aboveThat l dC dI cyI cyO cyL t0 t1 t2 t3 t4 t5 t6 t7 t8 mostWear keys boxes liveKeys liveBoxes parents makes wears keysOfBoxes x1 x2 _ q13 e14) (cwV 2 hts (gV ml_X1_95 im_X5_aboveThat se_X5_aboveThat in_X5 co_X5_aboveThat) rfl rfl rfl (by decide +kernel) ⟨Nat.le_of_ble_eq_true rfl, Nat.le_of_ble_eq_true rfl⟩) (cP_V hK hP hD [1, 2, 3, 4, 5, 6, 7, 8, 9] rfl rfl 1 rfl rfl) rfl rfl hl.1 rfl (lv_room (Nat.le_of_ble_eq_true rfl)) dX1_wrapsByThrowing_20 ⟨Nat.zero_le _, Nat.zero_le _⟩) hP hD hS hA [1, 2, 3, 4, 5, 6, 7, 8, 9] rfl (fun H locs hP hS => ?_)
    refine lv_istore_n (lv' := [(3, .int q13), (0, .ref h0), (1, .int x1), (2, .int x2)]) hx hb dX1_wrapsByThrowing_23 rfl hl (by decide) rfl (fun ls hl => ?_)
    refine lv_iload_n hx hb dX1_wrapsByThrowing_24 rfl (lv_at hl 2 rfl) ?_
    refine lv_if_ne (tgt := 35) hx hb dX1_wrapsByThrowing_25 (by decide) (fun c15 => ?_) (fun c15 => ?_)
    · have h := (if_neg c15).symm.trans h
      refine lv_iconst (v := 0) hx hb dX1_wrapsByThrowing_35 (by decide) ?_
      exact kB36 mostWear keys boxes liveKeys liveBoxes parents keysOfBoxes x1 x2 q13 0 h _ _ hP hD hS ls (lv_sub hl [1, 2, 3, 0] rfl)
    · have h := (if_pos c15).symm.trans h
      refine lv_iload_n hx hb dX1_wrapsByThrowing_28 rfl (lv_at hl 3 rfl) ?_
      refine fr_ir (M := ([] : va_W)) (va_runSN (host := "HangingKeys") (As := [.int x2]) (rest := []) ⟨hx, hb, hml, hown, hts⟩ (mX7_setOf l dC dI cyI cyO cyL x2 _ (fX7_setOf x2) rfl) ⟨va_cnB 1 hts (gW co_X7_setOf) rfl rfl rfl (hK.2 _ nl_X1_66) (hts _ (gb_mem in_X7)) (by decide +kernel) ⟨Nat.le_of_ble_eq_true rfl, Nat.le_of_ble_eq_true rfl⟩, hts _ (gb_mem st_X7_setOf), trivial⟩ (cP_S hK hP hD [] rfl rfl) rfl rfl hl.1 rfl (lv_room (Nat.le_of_ble_eq_true rfl)) dX1_wrapsByThrowing_29 ⟨Nat.zero_le _, Nat.zero_le _⟩) hP hD hS hA [] rfl (fun H locs hP hS => ?_)
      refine lv_goto (tgt := 36) hx hb dX1_wrapsByThrowing_32 (by decide) ?_
      exact kB36 mostWear keys boxes liveKeys liveBoxes parents keysOfBoxes x1 x2 q13 (fX7_setOf x2) h _ _ hP hD hS ls (lv_sub hl [1, 2, 3, 0] rfl)
  · have h := (if_pos c12).symm.trans h
    refine lv_iconst (v := (-1)) hx hb dX1_wrapsByThrowing_12 (by decide) ?_
    obtain rfl := Option.some.inj h
    exact e_i hx hb hr hlocks hP hS dX1_wrapsByThrowing_13

noncomputable def fX1_become (mostWear : Int32) (keys : Int32) (boxes : Int32) (liveKeys : Int32) (liveBoxes : Int32) (parents : Nat → Int32) (makes : Nat → Int32) (wears : Nat → Int32) (keysOfBoxes : Nat → Int32) (number : Int32) (heldKeys : Nat → Int32) (heldWhats : Nat → Int32) (closers : Nat → Int32) (closerMakes : Nat → Int32) (stands : Nat → Int32) (mostWear2 : Int32) (keys2 : Int32) (boxes2 : Int32) (liveKeys2 : Int32) (liveBoxes2 : Int32) (parents2 : Nat → Int32) (makes2 : Nat → Int32) (wears2 : Nat → Int32) (keysOfBoxes2 : Nat → Int32) (number2 : Int32) (heldKeys2 : Nat → Int32) (heldWhats2 : Nat → Int32) (closers2 : Nat → Int32) (closerMakes2 : Nat → Int32) (stands2 : Nat → Int32) : Option (Int32 × Int32 × Int32 × Int32 × Int32 × (Nat → Int32) × (Nat → Int32) × (Nat → Int32) × (Nat → Int32) × Int32 × (Nat → Int32) × (Nat → Int32) × (Nat → Int32) × (Nat → Int32) × (Nat → Int32)) :=
  ((fX5_become mostWear keys boxes liveKeys liveBoxes parents makes wears keysOfBoxes mostWear2 keys2 boxes2 liveKeys2 liveBoxes2 parents2 makes2 wears2 keysOfBoxes2).bind fun q1 => ((fX6_become number heldKeys heldWhats closers closerMakes stands number2 heldKeys2 heldWhats2 closers2 closerMakes2 stands2).bind fun q3 => (some (q1.1, q1.2.1, q1.2.2.1, q1.2.2.2.1, q1.2.2.2.2.1, q1.2.2.2.2.2.1, q1.2.2.2.2.2.2.1, q1.2.2.2.2.2.2.2.1, q1.2.2.2.2.2.2.2.2, q3.1, q3.2.1, q3.2.2.1, q3.2.2.2.1, q3.2.2.2.2.1, q3.2.2.2.2.2))))
set_option maxHeartbeats 1000000 in
set_option maxRecDepth 100000 in
theorem mX1_become (l : Launch) (dC : Nat → ClassId) (dI : Nat → Nat → Nat) (cyI cyO cyL : ClassId) (h0 t0 t1 t2 t3 t4 t5 t6 t7 t8 w0 w1 w2 w3 w4 w5 w6 w7 w8 w9 w10 vh0 vt0 vt1 vt2 vt3 vt4 vt5 vt6 vt7 vt8 vw0 vw1 vw2 vw3 vw4 vw5 vw6 vw7 vw8 vw9 vw10 : Nat) (mostWear : Int32) (keys : Int32) (boxes : Int32) (liveKeys : Int32) (liveBoxes : Int32) (parents : Nat → Int32) (makes : Nat → Int32) (wears : Nat → Int32) (keysOfBoxes : Nat → Int32) (number : Int32) (heldKeys : Nat → Int32) (heldWhats : Nat → Int32) (closers : Nat → Int32) (closerMakes : Nat → Int32) (stands : Nat → Int32) (mostWear2 : Int32) (keys2 : Int32) (boxes2 : Int32) (liveKeys2 : Int32) (liveBoxes2 : Int32) (parents2 : Nat → Int32) (makes2 : Nat → Int32) (wears2 : Nat → Int32) (keysOfBoxes2 : Nat → Int32) (number2 : Int32) (heldKeys2 : Nat → Int32) (heldWhats2 : Nat → Int32) (closers2 : Nat → Int32) (closerMakes2 : Nat → Int32) (stands2 : Nat → Int32)  (sz : Nat) (res : Int32 × Int32 × Int32 × Int32 × Int32 × (Nat → Int32) × (Nat → Int32) × (Nat → Int32) × (Nat → Int32) × Int32 × (Nat → Int32) × (Nat → Int32) × (Nat → Int32) × (Nat → Int32) × (Nat → Int32)) (h : fX1_become mostWear keys boxes liveKeys liveBoxes parents makes wears keysOfBoxes number heldKeys heldWhats closers closerMakes stands mostWear2 keys2 boxes2 liveKeys2 liveBoxes2 parents2 makes2 wears2 keysOfBoxes2 number2 heldKeys2 heldWhats2 closers2 closerMakes2 stands2 = some res) : Met l yX1_become (wsG yX1_become cX1_become 2 none) ({ frames := 3, cells := 0, slots := 0, locals := 82 }) (cP dC dI cyI cyO cyL sz [.ref h0, .ref vh0] ((houseW cyI h0 t0 t1 t2 t3 t4 t5 t6 t7 t8 w0 w1 w2 w3 w4 w5 w6 w7 w8 w9 w10 mostWear keys boxes liveKeys liveBoxes parents makes wears keysOfBoxes number heldKeys heldWhats closers closerMakes stands) ++ (houseW cyI vh0 vt0 vt1 vt2 vt3 vt4 vt5 vt6 vt7 vt8 vw0 vw1 vw2 vw3 vw4 vw5 vw6 vw7 vw8 vw9 vw10 mostWear2 keys2 boxes2 liveKeys2 liveBoxes2 parents2 makes2 wears2 keysOfBoxes2 number2 heldKeys2 heldWhats2 closers2 closerMakes2 stands2))) (cV dC dI ((houseW cyI h0 t0 t1 t2 t3 t4 t5 t6 t7 t8 w0 w1 w2 w3 w4 w5 w6 w7 w8 w9 w10 res.1 res.2.1 res.2.2.1 res.2.2.2.1 res.2.2.2.2.1 res.2.2.2.2.2.1 res.2.2.2.2.2.2.1 res.2.2.2.2.2.2.2.1 res.2.2.2.2.2.2.2.2.1 res.2.2.2.2.2.2.2.2.2.1 res.2.2.2.2.2.2.2.2.2.2.1 res.2.2.2.2.2.2.2.2.2.2.2.1 res.2.2.2.2.2.2.2.2.2.2.2.2.1 res.2.2.2.2.2.2.2.2.2.2.2.2.2.1 res.2.2.2.2.2.2.2.2.2.2.2.2.2.2) ++ (houseW cyI vh0 vt0 vt1 vt2 vt3 vt4 vt5 vt6 vt7 vt8 vw0 vw1 vw2 vw3 vw4 vw5 vw6 vw7 vw8 vw9 vw10 mostWear2 keys2 boxes2 liveKeys2 liveBoxes2 parents2 makes2 wears2 keysOfBoxes2 number2 heldKeys2 heldWhats2 closers2 closerMakes2 stands2)) (va_A ((houseW cyI h0 t0 t1 t2 t3 t4 t5 t6 t7 t8 w0 w1 w2 w3 w4 w5 w6 w7 w8 w9 w10 mostWear keys boxes liveKeys liveBoxes parents makes wears keysOfBoxes number heldKeys heldWhats closers closerMakes stands) ++ (houseW cyI vh0 vt0 vt1 vt2 vt3 vt4 vt5 vt6 vt7 vt8 vw0 vw1 vw2 vw3 vw4 vw5 vw6 vw7 vw8 vw9 vw10 mostWear2 keys2 boxes2 liveKeys2 liveBoxes2 parents2 makes2 wears2 keysOfBoxes2 number2 heldKeys2 heldWhats2 closers2 closerMakes2 stands2)) sz)) 0 0 (va_A ((houseW cyI h0 t0 t1 t2 t3 t4 t5 t6 t7 t8 w0 w1 w2 w3 w4 w5 w6 w7 w8 w9 w10 mostWear keys boxes liveKeys liveBoxes parents makes wears keysOfBoxes number heldKeys heldWhats closers closerMakes stands) ++ (houseW cyI vh0 vt0 vt1 vt2 vt3 vt4 vt5 vt6 vt7 vt8 vw0 vw1 vw2 vw3 vw4 vw5 vw6 vw7 vw8 vw9 vw10 mostWear2 keys2 boxes2 liveKeys2 liveBoxes2 parents2 makes2 wears2 keysOfBoxes2 number2 heldKeys2 heldWhats2 closers2 closerMakes2 stands2)) sz) := by
  refine Met.ofW (cc := cX1_become) (maxL := 2) (ret := none) (by decide) rfl ?_
  intro p e s m args below meth c s₁ B hml hv
  obtain ⟨rfl, hsz, hP, hK, hD0⟩ := hv
  have hx := B.exec
  have hb := B.bytes
  have hr := B.returns
  have hts := atoms_spec (ws := wsG yX1_become cX1_become 2 none) B.pre
  have hown : s.vm.findClass RX1 = some m.cls := findClass_of_methodNamed B.named
  have hlocks := B.notSynchronized
  subst hsz
  have hD := hD0.self (sz := s.heap.size)
  generalize hAe : va_A ((houseW cyI h0 t0 t1 t2 t3 t4 t5 t6 t7 t8 w0 w1 w2 w3 w4 w5 w6 w7 w8 w9 w10 mostWear keys boxes liveKeys liveBoxes parents makes wears keysOfBoxes number heldKeys heldWhats closers closerMakes stands) ++ (houseW cyI vh0 vt0 vt1 vt2 vt3 vt4 vt5 vt6 vt7 vt8 vw0 vw1 vw2 vw3 vw4 vw5 vw6 vw7 vw8 vw9 vw10 mostWear2 keys2 boxes2 liveKeys2 liveBoxes2 parents2 makes2 wears2 keysOfBoxes2 number2 heldKeys2 heldWhats2 closers2 closerMakes2 stands2)) s.heap.size = A at hD ⊢
  have hA : ∀ q : Nat, s.heap.size ≤ q → A q := fun q h => by rw [← hAe]; exact Or.inr h
  have hS : va_S A s.heap s.heap [] := va_S.rf
  have hl := lv_entry ([.ref h0, .ref vh0]) (n := 2) (Nat.le_of_ble_eq_true rfl)
  rw [lg_entry_eq]
  generalize (lg_sl ([.ref h0, .ref vh0]) ++ List.replicate (2 - (lg_sl ([.ref h0, .ref vh0])).length) Slot.unset).toArray = ls at hl ⊢
  have hl : lv_has ls 2 [(0, .ref h0), (1, .ref vh0)] := hl
  unfold fX1_become at h
  refine lv_aload_n hx hb dX1_become_0 rfl (lv_at hl 1 rfl) ?_
  refine lv_ifnonnull (tgt := 5) hx hb dX1_become_1 (by decide) ?_
  refine lv_aload_n hx hb dX1_become_5 rfl (lv_at hl 0 rfl) ?_
  refine va_get (D := (dC, dI)) (ci := 1) (v := .ref t0) (C := RX1) (T := TX1) (N := 2) hx hb hts (fun w h9 => gb_mem (lay_X1 w h9)) hown hK.1 hP 0 rfl rfl 0 (by decide) (hts _ (gb_mem fl_X1_12)) (fun _ h9 => h9) rfl dX1_become_6 ?_
  refine lv_aload_n hx hb dX1_become_9 rfl (lv_at hl 1 rfl) ?_
  refine va_get (D := (dC, dI)) (ci := 1) (v := .ref vt0) (C := RX1) (T := TX1) (N := 2) hx hb hts (fun w h9 => gb_mem (lay_X1 w h9)) hown hK.1 hP 21 rfl rfl 0 (by decide) (hts _ (gb_mem fl_X1_12)) (fun _ h9 => h9) rfl dX1_become_10 ?_
  obtain ⟨q1, e2, h⟩ := ob h
  refine fr_v (M := ((treeW cyI t0 t1 t2 t3 t4 t5 t6 t7 t8 mostWear keys boxes liveKeys liveBoxes parents makes wears keysOfBoxes) ++ (treeW cyI vt0 vt1 vt2 vt3 vt4 vt5 vt6 vt7 vt8 mostWear2 keys2 boxes2 liveKeys2 liveBoxes2 parents2 makes2 wears2 keysOfBoxes2))) (M' := ((treeW cyI t0 t1 t2 t3 t4 t5 t6 t7 t8 q1.1 q1.2.1 q1.2.2.1 q1.2.2.2.1 q1.2.2.2.2.1 q1.2.2.2.2.2.1 q1.2.2.2.2.2.2.1 q1.2.2.2.2.2.2.2.1 q1.2.2.2.2.2.2.2.2) ++ (treeW cyI vt0 vt1 vt2 vt3 vt4 vt5 vt6 vt7 vt8 mostWear2 keys2 boxes2 liveKeys2 liveBoxes2 parents2 makes2 wears2 keysOfBoxes2))) (L' := ((houseW cyI h0 t0 t1 t2 t3 t4 t5 t6 t7 t8 w0 w1 w2 w3 w4 w5 w6 w7 w8 w9 w10 q1.1 q1.2.1 q1.2.2.1 q1.2.2.2.1 q1.2.2.2.2.1 q1.2.2.2.2.2.1 q1.2.2.2.2.2.2.1 q1.2.2.2.2.2.2.2.1 q1.2.2.2.2.2.2.2.2 number heldKeys heldWhats closers closerMakes stands) ++ (houseW cyI vh0 vt0 vt1 vt2 vt3 vt4 vt5 vt6 vt7 vt8 vw0 vw1 vw2 vw3 vw4 vw5 vw6 vw7 vw8 vw9 vw10 mostWear2 keys2 boxes2 liveKeys2 liveBoxes2 parents2 makes2 wears2 keysOfBoxes2 number2 heldKeys2 heldWhats2 closers2 closerMakes2 stands2))) (va_runV (As := [.ref vt0]) (rest := []) ⟨hx, hb, hml, hown, hts⟩ (mX5_become l dC dI cyI cyO cyL t0 t1 t2 t3 t4 t5 t6 t7 t8 vt0 vt1 vt2 vt3 vt4 vt5 vt6 vt7 vt8 mostWear keys boxes liveKeys liveBoxes parents makes wears keysOfBoxes mostWear2 keys2 boxes2 liveKeys2 liveBoxes2 parents2 makes2 wears2 keysOfBoxes2 _ q1 e2) (cwV 1 hts (gV ml_X1_154 im_X5_become se_X5_become in_X5 co_X5_become) rfl rfl rfl (by decide +kernel) ⟨Nat.le_of_ble_eq_true rfl, Nat.le_of_ble_eq_true rfl⟩) (cP_V hK hP hD [1, 2, 3, 4, 5, 6, 7, 8, 9, 22, 23, 24, 25, 26, 27, 28, 29, 30] rfl rfl 1 rfl rfl) rfl rfl hl.1 rfl (lv_room (Nat.le_of_ble_eq_true rfl)) dX1_become_13 ⟨Nat.zero_le _, Nat.zero_le _⟩) hP hD hS hA [1, 2, 3, 4, 5, 6, 7, 8, 9, 22, 23, 24, 25, 26, 27, 28, 29, 30] rfl [(false, 0), (true, 0), (true, 1), (true, 2), (true, 3), (true, 4), (true, 5), (true, 6), (true, 7), (true, 8), (false, 10), (false, 11), (false, 12), (false, 13), (false, 14), (false, 15), (false, 16), (false, 17), (false, 18), (false, 19), (false, 20), (false, 21), (true, 9), (true, 10), (true, 11), (true, 12), (true, 13), (true, 14), (true, 15), (true, 16), (true, 17), (false, 31), (false, 32), (false, 33), (false, 34), (false, 35), (false, 36), (false, 37), (false, 38), (false, 39), (false, 40), (false, 41)] rfl rfl rfl (fun H locs hP hD hS => ?_)
  refine lv_aload_n hx hb dX1_become_16 rfl (lv_at hl 0 rfl) ?_
  refine va_get (D := (dC, dI)) (ci := 1) (v := .ref w0) (C := RX1) (T := TX1) (N := 2) hx hb hts (fun w h9 => gb_mem (lay_X1 w h9)) hown hK.1 hP 0 rfl rfl 1 (by decide) (hts _ (gb_mem fl_X1_21)) (fun _ h9 => h9) rfl dX1_become_17 ?_
  refine lv_aload_n hx hb dX1_become_20 rfl (lv_at hl 1 rfl) ?_
  refine va_get (D := (dC, dI)) (ci := 1) (v := .ref vw0) (C := RX1) (T := TX1) (N := 2) hx hb hts (fun w h9 => gb_mem (lay_X1 w h9)) hown hK.1 hP 21 rfl rfl 1 (by decide) (hts _ (gb_mem fl_X1_21)) (fun _ h9 => h9) rfl dX1_become_21 ?_
  obtain ⟨q3, e4, h⟩ := ob h
  refine fr_v (M := ((wrapsW cyI w0 w1 w2 w3 w4 w5 w6 w7 w8 w9 w10 number heldKeys heldWhats closers closerMakes stands) ++ (wrapsW cyI vw0 vw1 vw2 vw3 vw4 vw5 vw6 vw7 vw8 vw9 vw10 number2 heldKeys2 heldWhats2 closers2 closerMakes2 stands2))) (M' := ((wrapsW cyI w0 w1 w2 w3 w4 w5 w6 w7 w8 w9 w10 q3.1 q3.2.1 q3.2.2.1 q3.2.2.2.1 q3.2.2.2.2.1 q3.2.2.2.2.2) ++ (wrapsW cyI vw0 vw1 vw2 vw3 vw4 vw5 vw6 vw7 vw8 vw9 vw10 number2 heldKeys2 heldWhats2 closers2 closerMakes2 stands2))) (L' := ((houseW cyI h0 t0 t1 t2 t3 t4 t5 t6 t7 t8 w0 w1 w2 w3 w4 w5 w6 w7 w8 w9 w10 q1.1 q1.2.1 q1.2.2.1 q1.2.2.2.1 q1.2.2.2.2.1 q1.2.2.2.2.2.1 q1.2.2.2.2.2.2.1 q1.2.2.2.2.2.2.2.1 q1.2.2.2.2.2.2.2.2 q3.1 q3.2.1 q3.2.2.1 q3.2.2.2.1 q3.2.2.2.2.1 q3.2.2.2.2.2) ++ (houseW cyI vh0 vt0 vt1 vt2 vt3 vt4 vt5 vt6 vt7 vt8 vw0 vw1 vw2 vw3 vw4 vw5 vw6 vw7 vw8 vw9 vw10 mostWear2 keys2 boxes2 liveKeys2 liveBoxes2 parents2 makes2 wears2 keysOfBoxes2 number2 heldKeys2 heldWhats2 closers2 closerMakes2 stands2))) (va_runV (As := [.ref vw0]) (rest := []) ⟨hx, hb, hml, hown, hts⟩ (mX6_become l dC dI cyI cyO cyL w0 w1 w2 w3 w4 w5 w6 w7 w8 w9 w10 vw0 vw1 vw2 vw3 vw4 vw5 vw6 vw7 vw8 vw9 vw10 number heldKeys heldWhats closers closerMakes stands number2 heldKeys2 heldWhats2 closers2 closerMakes2 stands2 _ q3 e4) (cwV 1 hts (gV ml_X1_158 im_X6_become se_X6_become in_X6 co_X6_become) rfl rfl rfl (by decide +kernel) ⟨Nat.le_of_ble_eq_true rfl, Nat.le_of_ble_eq_true rfl⟩) (cP_V hK hP hD [10, 11, 12, 13, 14, 15, 16, 17, 18, 19, 20, 31, 32, 33, 34, 35, 36, 37, 38, 39, 40, 41] rfl rfl 10 rfl rfl) rfl rfl hl.1 rfl (lv_room (Nat.le_of_ble_eq_true rfl)) dX1_become_24 ⟨Nat.zero_le _, Nat.zero_le _⟩) hP hD hS hA [10, 11, 12, 13, 14, 15, 16, 17, 18, 19, 20, 31, 32, 33, 34, 35, 36, 37, 38, 39, 40, 41] rfl [(false, 0), (false, 1), (false, 2), (false, 3), (false, 4), (false, 5), (false, 6), (false, 7), (false, 8), (false, 9), (true, 0), (true, 1), (true, 2), (true, 3), (true, 4), (true, 5), (true, 6), (true, 7), (true, 8), (true, 9), (true, 10), (false, 21), (false, 22), (false, 23), (false, 24), (false, 25), (false, 26), (false, 27), (false, 28), (false, 29), (false, 30), (true, 11), (true, 12), (true, 13), (true, 14), (true, 15), (true, 16), (true, 17), (true, 18), (true, 19), (true, 20), (true, 21)] rfl rfl rfl (fun H locs hP hD hS => ?_)
  obtain rfl := Option.some.inj h
  exact e_v hx hb hr hlocks hP hS dX1_become_27
