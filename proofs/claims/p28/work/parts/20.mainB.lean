/-! the outer class -/

noncomputable def fX7_lostBy (keys : Int32) (boxes : Int32) (liveKeys : Int32) (liveBoxes : Int32) (parents : Nat → Int32) (keysOfBoxes : Nat → Int32) (x1 : Int32) : Option (Int32) :=
  (if (fX5_isLiveKey liveKeys x1) = 0 then (some (-1)) else ((fX5_withAllBelow keys parents x1).bind fun q2 => ((fX5_liveBoxesOn boxes liveBoxes keysOfBoxes q2).bind fun q4 => (some q4))))
set_option maxHeartbeats 1000000 in
set_option maxRecDepth 100000 in
theorem mX7_lostBy (l : Launch) (dC : Nat → ClassId) (dI : Nat → Nat → Nat) (cyI cyO cyL : ClassId) (g0 h0 t0 t1 t2 t3 t4 t5 t6 t7 t8 w0 w1 w2 w3 w4 w5 w6 w7 w8 w9 w10 o0 o1 o2 o3 o4 p0 p1 p2 j0 j1 s0 : Nat) (had : Nat → Nat → Nat) (mostWear : Int32) (keys : Int32) (boxes : Int32) (liveKeys : Int32) (liveBoxes : Int32) (parents : Nat → Int32) (makes : Nat → Int32) (wears : Nat → Int32) (keysOfBoxes : Nat → Int32) (number : Int32) (heldKeys : Nat → Int32) (heldWhats : Nat → Int32) (closers : Nat → Int32) (closerMakes : Nat → Int32) (stands : Nat → Int32) (startMakes : Nat → Int32) (opened : Nat → Int32) (signs : Nat → Int32) (length : Int32) (next : Int32) (letter : Int32) (target : Int32) (place : Int32) (spare : Int32) (kept : Int32) (sl : Nat → Option Nat) (hv : Nat → HV) (R : va_W) (x1 : Int32) (sz : Nat) (res : Int32) (h : fX7_lostBy keys boxes liveKeys liveBoxes parents keysOfBoxes x1 = some res) : Met l yX7_lostBy (wsG yX7_lostBy cX7_lostBy 3 (some .int)) ({ frames := 2, cells := 0, slots := 0, locals := 44 }) (cP dC dI cyI cyO cyL sz [.ref g0, .int x1] ((mainW cyI cyO g0 h0 t0 t1 t2 t3 t4 t5 t6 t7 t8 w0 w1 w2 w3 w4 w5 w6 w7 w8 w9 w10 o0 o1 o2 o3 o4 p0 p1 p2 j0 j1 s0 had mostWear keys boxes liveKeys liveBoxes parents makes wears keysOfBoxes number heldKeys heldWhats closers closerMakes stands startMakes opened signs length next letter target place spare kept sl) ++ (hvW cyI had hv ++ R))) (cI dC dI res ((mainW cyI cyO g0 h0 t0 t1 t2 t3 t4 t5 t6 t7 t8 w0 w1 w2 w3 w4 w5 w6 w7 w8 w9 w10 o0 o1 o2 o3 o4 p0 p1 p2 j0 j1 s0 had mostWear keys boxes liveKeys liveBoxes parents makes wears keysOfBoxes number heldKeys heldWhats closers closerMakes stands startMakes opened signs length next letter target place spare kept sl) ++ (hvW cyI had hv ++ R)) (va_A ((mainW cyI cyO g0 h0 t0 t1 t2 t3 t4 t5 t6 t7 t8 w0 w1 w2 w3 w4 w5 w6 w7 w8 w9 w10 o0 o1 o2 o3 o4 p0 p1 p2 j0 j1 s0 had mostWear keys boxes liveKeys liveBoxes parents makes wears keysOfBoxes number heldKeys heldWhats closers closerMakes stands startMakes opened signs length next letter target place spare kept sl) ++ (hvW cyI had hv ++ R)) sz)) 0 0 (va_A ((mainW cyI cyO g0 h0 t0 t1 t2 t3 t4 t5 t6 t7 t8 w0 w1 w2 w3 w4 w5 w6 w7 w8 w9 w10 o0 o1 o2 o3 o4 p0 p1 p2 j0 j1 s0 had mostWear keys boxes liveKeys liveBoxes parents makes wears keysOfBoxes number heldKeys heldWhats closers closerMakes stands startMakes opened signs length next letter target place spare kept sl) ++ (hvW cyI had hv ++ R)) sz) := by
  refine Met.ofW (cc := cX7_lostBy) (maxL := 3) (ret := (some .int)) (by decide) rfl ?_
  intro p e s m args below meth c s₁ B hml hv
  obtain ⟨rfl, hsz, hP, hK, hD0⟩ := hv
  have hx := B.exec
  have hb := B.bytes
  have hr := B.returns
  have hts := atoms_spec (ws := wsG yX7_lostBy cX7_lostBy 3 (some .int)) B.pre
  have hown : s.vm.findClass RX7 = some m.cls := findClass_of_methodNamed B.named
  have hlocks := B.notSynchronized
  subst hsz
  have hD := hD0.self (sz := s.heap.size)
  generalize hAe : va_A ((mainW cyI cyO g0 h0 t0 t1 t2 t3 t4 t5 t6 t7 t8 w0 w1 w2 w3 w4 w5 w6 w7 w8 w9 w10 o0 o1 o2 o3 o4 p0 p1 p2 j0 j1 s0 had mostWear keys boxes liveKeys liveBoxes parents makes wears keysOfBoxes number heldKeys heldWhats closers closerMakes stands startMakes opened signs length next letter target place spare kept sl) ++ (hvW cyI had hv ++ R)) s.heap.size = A at hD ⊢
  have hA : ∀ q : Nat, s.heap.size ≤ q → A q := fun q h => by rw [← hAe]; exact Or.inr h
  have hS : va_S A s.heap s.heap [] := va_S.rf
  have hl := lv_entry ([.ref g0, .int x1]) (n := 3) (Nat.le_of_ble_eq_true rfl)
  rw [lg_entry_eq]
  generalize (lg_sl ([.ref g0, .int x1]) ++ List.replicate (3 - (lg_sl ([.ref g0, .int x1])).length) Slot.unset).toArray = ls at hl ⊢
  have hl : lv_has ls 3 [(0, .ref g0), (1, .int x1)] := hl
  unfold fX7_lostBy at h
  refine lv_aload_n hx hb dX7_lostBy_0 rfl (lv_at hl 0 rfl) ?_
  refine va_get (D := (dC, dI)) (ci := 7) (v := .ref h0) (C := RX7) (T := TX7) (N := 5) hx hb hts (fun w h9 => gb_mem (lay_X7 w h9)) hown hK.1 hP 0 rfl rfl 0 (by decide) (hts _ (gb_mem fl_X7_10)) (fun _ h9 => h9) rfl dX7_lostBy_1 ?_
  refine va_getN (D := (dC, dI)) (ci := 1) (v := .ref t0) (C := RX1) (T := TX1) (N := 2) hx hb hts (fun w h9 => gb_mem (lay_X1 w h9)) hown hK.1 hP 1 rfl rfl 0 (by decide) (va_Nw.use rfl (hK.2 _ nl_X7_68)) (fun _ h9 => h9) rfl dX7_lostBy_4 ?_
  refine lv_astore_n (lv' := [(2, .ref t0), (0, .ref g0), (1, .int x1)]) hx hb dX7_lostBy_7 rfl hl (by decide) rfl (fun ls hl => ?_)
  refine lv_aload_n hx hb dX7_lostBy_8 rfl (lv_at hl 0 rfl) ?_
  refine lv_iload_n hx hb dX7_lostBy_9 rfl (lv_at hl 2 rfl) ?_
  refine fr_ir (M := (treeW cyI t0 t1 t2 t3 t4 t5 t6 t7 t8 mostWear keys boxes liveKeys liveBoxes parents makes wears keysOfBoxes)) (va_runV (As := [.int x1]) (rest := []) ⟨hx, hb, hml, hown, hts⟩ (mX5_isLiveKey l dC dI cyI cyO cyL t0 t1 t2 t3 t4 t5 t6 t7 t8 mostWear keys boxes liveKeys liveBoxes parents makes wears keysOfBoxes x1 _ (fX5_isLiveKey liveKeys x1) rfl) (cwV 1 hts (gV ml_X7_81 im_X5_isLiveKey se_X5_isLiveKey in_X5 co_X5_isLiveKey) rfl rfl rfl (by decide +kernel) ⟨Nat.le_of_ble_eq_true rfl, Nat.le_of_ble_eq_true rfl⟩) (cP_V hK hP hD [2, 3, 4, 5, 6, 7, 8, 9, 10] rfl rfl 2 rfl rfl) rfl rfl hl.1 rfl (lv_room (Nat.le_of_ble_eq_true rfl)) dX7_lostBy_10 ⟨Nat.zero_le _, Nat.zero_le _⟩) hP hD hS hA [2, 3, 4, 5, 6, 7, 8, 9, 10] rfl (fun H locs hP hS => ?_)
  refine lv_if_eq (tgt := 28) hx hb dX7_lostBy_13 (by decide) (fun c1 => ?_) (fun c1 => ?_)
  · have h := (if_pos c1).symm.trans h
    refine lv_iconst (v := (-1)) hx hb dX7_lostBy_28 (by decide) ?_
    obtain rfl := Option.some.inj h
    exact e_i hx hb hr hlocks hP hS dX7_lostBy_29
  · have h := (if_neg c1).symm.trans h
    refine lv_aload_n hx hb dX7_lostBy_16 rfl (lv_at hl 0 rfl) ?_
    refine lv_aload_n hx hb dX7_lostBy_17 rfl (lv_at hl 0 rfl) ?_
    refine lv_iload_n hx hb dX7_lostBy_18 rfl (lv_at hl 2 rfl) ?_
    obtain ⟨q2, e3, h⟩ := ob h
    refine fr_ir (M := (treeW cyI t0 t1 t2 t3 t4 t5 t6 t7 t8 mostWear keys boxes liveKeys liveBoxes parents makes wears keysOfBoxes)) (va_runV (As := [.int x1]) (rest := [.ref t0]) ⟨hx, hb, hml, hown, hts⟩ (mX5_withAllBelow l dC dI cyI cyO cyL t0 t1 t2 t3 t4 t5 t6 t7 t8 mostWear keys boxes liveKeys liveBoxes parents makes wears keysOfBoxes x1 _ q2 e3) (cwV 1 hts (gV ml_X7_202 im_X5_withAllBelow se_X5_withAllBelow in_X5 co_X5_withAllBelow) rfl rfl rfl (by decide +kernel) ⟨Nat.le_of_ble_eq_true rfl, Nat.le_of_ble_eq_true rfl⟩) (cP_V hK hP hD [2, 3, 4, 5, 6, 7, 8, 9, 10] rfl rfl 2 rfl rfl) rfl rfl hl.1 rfl (lv_room (Nat.le_of_ble_eq_true rfl)) dX7_lostBy_19 ⟨Nat.zero_le _, Nat.zero_le _⟩) hP hD hS hA [2, 3, 4, 5, 6, 7, 8, 9, 10] rfl (fun H locs hP hS => ?_)
    obtain ⟨q4, e5, h⟩ := ob h
    refine fr_ir (M := (treeW cyI t0 t1 t2 t3 t4 t5 t6 t7 t8 mostWear keys boxes liveKeys liveBoxes parents makes wears keysOfBoxes)) (va_runV (As := [.int q2]) (rest := []) ⟨hx, hb, hml, hown, hts⟩ (mX5_liveBoxesOn l dC dI cyI cyO cyL t0 t1 t2 t3 t4 t5 t6 t7 t8 mostWear keys boxes liveKeys liveBoxes parents makes wears keysOfBoxes q2 _ q4 e5) (cwV 1 hts (gV ml_X7_100 im_X5_liveBoxesOn se_X5_liveBoxesOn in_X5 co_X5_liveBoxesOn) rfl rfl rfl (by decide +kernel) ⟨Nat.le_of_ble_eq_true rfl, Nat.le_of_ble_eq_true rfl⟩) (cP_V hK hP hD [2, 3, 4, 5, 6, 7, 8, 9, 10] rfl rfl 2 rfl rfl) rfl rfl hl.1 rfl (lv_room (Nat.le_of_ble_eq_true rfl)) dX7_lostBy_22 ⟨Nat.zero_le _, Nat.zero_le _⟩) hP hD hS hA [2, 3, 4, 5, 6, 7, 8, 9, 10] rfl (fun H locs hP hS => ?_)
    refine lv_goto (tgt := 29) hx hb dX7_lostBy_25 (by decide) ?_
    obtain rfl := Option.some.inj h
    exact e_i hx hb hr hlocks hP hS dX7_lostBy_29

noncomputable def fX7_throwingMakes (mostWear : Int32) (keys : Int32) (boxes : Int32) (liveKeys : Int32) (liveBoxes : Int32) (parents : Nat → Int32) (keysOfBoxes : Nat → Int32) (x1 : Int32) (x2 : Int32) : Option (Int32) :=
  (if x1 = 0 then ((fX1_wrapsByThrowing mostWear keys boxes liveKeys liveBoxes parents keysOfBoxes x1 x2).bind fun q2 => (some q2)) else (if x1 = 1 then ((fX1_wrapsByThrowing mostWear keys boxes liveKeys liveBoxes parents keysOfBoxes x1 x2).bind fun q5 => (some q5)) else (some (-2))))
set_option maxHeartbeats 1000000 in
set_option maxRecDepth 100000 in
theorem mX7_throwingMakes (l : Launch) (dC : Nat → ClassId) (dI : Nat → Nat → Nat) (cyI cyO cyL : ClassId) (g0 h0 t0 t1 t2 t3 t4 t5 t6 t7 t8 w0 w1 w2 w3 w4 w5 w6 w7 w8 w9 w10 o0 o1 o2 o3 o4 p0 p1 p2 j0 j1 s0 : Nat) (had : Nat → Nat → Nat) (mostWear : Int32) (keys : Int32) (boxes : Int32) (liveKeys : Int32) (liveBoxes : Int32) (parents : Nat → Int32) (makes : Nat → Int32) (wears : Nat → Int32) (keysOfBoxes : Nat → Int32) (number : Int32) (heldKeys : Nat → Int32) (heldWhats : Nat → Int32) (closers : Nat → Int32) (closerMakes : Nat → Int32) (stands : Nat → Int32) (startMakes : Nat → Int32) (opened : Nat → Int32) (signs : Nat → Int32) (length : Int32) (next : Int32) (letter : Int32) (target : Int32) (place : Int32) (spare : Int32) (kept : Int32) (sl : Nat → Option Nat) (hv : Nat → HV) (R : va_W) (x1 : Int32) (x2 : Int32) (sz : Nat) (res : Int32) (h : fX7_throwingMakes mostWear keys boxes liveKeys liveBoxes parents keysOfBoxes x1 x2 = some res) : Met l yX7_throwingMakes (wsG yX7_throwingMakes cX7_throwingMakes 3 (some .int)) ({ frames := 5, cells := 0, slots := 0, locals := 116 }) (cP dC dI cyI cyO cyL sz [.ref g0, .int x1, .int x2] ((mainW cyI cyO g0 h0 t0 t1 t2 t3 t4 t5 t6 t7 t8 w0 w1 w2 w3 w4 w5 w6 w7 w8 w9 w10 o0 o1 o2 o3 o4 p0 p1 p2 j0 j1 s0 had mostWear keys boxes liveKeys liveBoxes parents makes wears keysOfBoxes number heldKeys heldWhats closers closerMakes stands startMakes opened signs length next letter target place spare kept sl) ++ (hvW cyI had hv ++ R))) (cI dC dI res ((mainW cyI cyO g0 h0 t0 t1 t2 t3 t4 t5 t6 t7 t8 w0 w1 w2 w3 w4 w5 w6 w7 w8 w9 w10 o0 o1 o2 o3 o4 p0 p1 p2 j0 j1 s0 had mostWear keys boxes liveKeys liveBoxes parents makes wears keysOfBoxes number heldKeys heldWhats closers closerMakes stands startMakes opened signs length next letter target place spare kept sl) ++ (hvW cyI had hv ++ R)) (va_A ((mainW cyI cyO g0 h0 t0 t1 t2 t3 t4 t5 t6 t7 t8 w0 w1 w2 w3 w4 w5 w6 w7 w8 w9 w10 o0 o1 o2 o3 o4 p0 p1 p2 j0 j1 s0 had mostWear keys boxes liveKeys liveBoxes parents makes wears keysOfBoxes number heldKeys heldWhats closers closerMakes stands startMakes opened signs length next letter target place spare kept sl) ++ (hvW cyI had hv ++ R)) sz)) 0 0 (va_A ((mainW cyI cyO g0 h0 t0 t1 t2 t3 t4 t5 t6 t7 t8 w0 w1 w2 w3 w4 w5 w6 w7 w8 w9 w10 o0 o1 o2 o3 o4 p0 p1 p2 j0 j1 s0 had mostWear keys boxes liveKeys liveBoxes parents makes wears keysOfBoxes number heldKeys heldWhats closers closerMakes stands startMakes opened signs length next letter target place spare kept sl) ++ (hvW cyI had hv ++ R)) sz) := by
  refine Met.ofW (cc := cX7_throwingMakes) (maxL := 3) (ret := (some .int)) (by decide) rfl ?_
  intro p e s m args below meth c s₁ B hml hv
  obtain ⟨rfl, hsz, hP, hK, hD0⟩ := hv
  have hx := B.exec
  have hb := B.bytes
  have hr := B.returns
  have hts := atoms_spec (ws := wsG yX7_throwingMakes cX7_throwingMakes 3 (some .int)) B.pre
  have hown : s.vm.findClass RX7 = some m.cls := findClass_of_methodNamed B.named
  have hlocks := B.notSynchronized
  subst hsz
  have hD := hD0.self (sz := s.heap.size)
  generalize hAe : va_A ((mainW cyI cyO g0 h0 t0 t1 t2 t3 t4 t5 t6 t7 t8 w0 w1 w2 w3 w4 w5 w6 w7 w8 w9 w10 o0 o1 o2 o3 o4 p0 p1 p2 j0 j1 s0 had mostWear keys boxes liveKeys liveBoxes parents makes wears keysOfBoxes number heldKeys heldWhats closers closerMakes stands startMakes opened signs length next letter target place spare kept sl) ++ (hvW cyI had hv ++ R)) s.heap.size = A at hD ⊢
  have hA : ∀ q : Nat, s.heap.size ≤ q → A q := fun q h => by rw [← hAe]; exact Or.inr h
  have hS : va_S A s.heap s.heap [] := va_S.rf
  have hl := lv_entry ([.ref g0, .int x1, .int x2]) (n := 3) (Nat.le_of_ble_eq_true rfl)
  rw [lg_entry_eq]
  generalize (lg_sl ([.ref g0, .int x1, .int x2]) ++ List.replicate (3 - (lg_sl ([.ref g0, .int x1, .int x2])).length) Slot.unset).toArray = ls at hl ⊢
  have hl : lv_has ls 3 [(0, .ref g0), (1, .int x1), (2, .int x2)] := hl
  unfold fX7_throwingMakes at h
  refine lv_iload_n hx hb dX7_throwingMakes_0 rfl (lv_at hl 1 rfl) ?_
  refine lv_if_eq (tgt := 9) hx hb dX7_throwingMakes_1 (by decide) (fun c1 => ?_) (fun c1 => ?_)
  · have h := (if_pos c1).symm.trans h
    refine lv_aload_n hx hb dX7_throwingMakes_9 rfl (lv_at hl 0 rfl) ?_
    refine va_get (D := (dC, dI)) (ci := 7) (v := .ref h0) (C := RX7) (T := TX7) (N := 5) hx hb hts (fun w h9 => gb_mem (lay_X7 w h9)) hown hK.1 hP 0 rfl rfl 0 (by decide) (hts _ (gb_mem fl_X7_10)) (fun _ h9 => h9) rfl dX7_throwingMakes_10 ?_
    refine lv_iload_n hx hb dX7_throwingMakes_13 rfl (lv_at hl 1 rfl) ?_
    refine lv_iload_n hx hb dX7_throwingMakes_14 rfl (lv_at hl 2 rfl) ?_
    obtain ⟨q2, e3, h⟩ := ob h
    refine fr_ir (M := (houseW cyI h0 t0 t1 t2 t3 t4 t5 t6 t7 t8 w0 w1 w2 w3 w4 w5 w6 w7 w8 w9 w10 mostWear keys boxes liveKeys liveBoxes parents makes wears keysOfBoxes number heldKeys heldWhats closers closerMakes stands)) (va_runV (As := [.int x1, .int x2]) (rest := []) ⟨hx, hb, hml, hown, hts⟩ (mX1_wrapsByThrowing l dC dI cyI cyO cyL h0 t0 t1 t2 t3 t4 t5 t6 t7 t8 w0 w1 w2 w3 w4 w5 w6 w7 w8 w9 w10 mostWear keys boxes liveKeys liveBoxes parents makes wears keysOfBoxes number heldKeys heldWhats closers closerMakes stands x1 x2 _ q2 e3) (cwV 2 hts (gV ml_X7_205 im_X1_wrapsByThrowing se_X1_wrapsByThrowing in_X1 co_X1_wrapsByThrowing) rfl rfl rfl (by decide +kernel) ⟨Nat.le_of_ble_eq_true rfl, Nat.le_of_ble_eq_true rfl⟩) (cP_V hK hP hD [1, 2, 3, 4, 5, 6, 7, 8, 9, 10, 11, 12, 13, 14, 15, 16, 17, 18, 19, 20, 21] rfl rfl 1 rfl rfl) rfl rfl hl.1 rfl (lv_room (Nat.le_of_ble_eq_true rfl)) dX7_throwingMakes_15 ⟨Nat.zero_le _, Nat.zero_le _⟩) hP hD hS hA [1, 2, 3, 4, 5, 6, 7, 8, 9, 10, 11, 12, 13, 14, 15, 16, 17, 18, 19, 20, 21] rfl (fun H locs hP hS => ?_)
    refine lv_goto (tgt := 23) hx hb dX7_throwingMakes_18 (by decide) ?_
    obtain rfl := Option.some.inj h
    exact e_i hx hb hr hlocks hP hS dX7_throwingMakes_23
  · have h := (if_neg c1).symm.trans h
    refine lv_iload_n hx hb dX7_throwingMakes_4 rfl (lv_at hl 1 rfl) ?_
    refine lv_iconst (v := 1) hx hb dX7_throwingMakes_5 (by decide) ?_
    refine lv_icmp_ne (tgt := 21) hx hb dX7_throwingMakes_6 (by decide) (fun c4 => ?_) (fun c4 => ?_)
    · have h := (if_neg c4).symm.trans h
      refine lv_bipush (v := (-2)) hx hb dX7_throwingMakes_21 (by decide) ?_
      obtain rfl := Option.some.inj h
      exact e_i hx hb hr hlocks hP hS dX7_throwingMakes_23
    · have h := (if_pos c4).symm.trans h
      refine lv_aload_n hx hb dX7_throwingMakes_9 rfl (lv_at hl 0 rfl) ?_
      refine va_get (D := (dC, dI)) (ci := 7) (v := .ref h0) (C := RX7) (T := TX7) (N := 5) hx hb hts (fun w h9 => gb_mem (lay_X7 w h9)) hown hK.1 hP 0 rfl rfl 0 (by decide) (hts _ (gb_mem fl_X7_10)) (fun _ h9 => h9) rfl dX7_throwingMakes_10 ?_
      refine lv_iload_n hx hb dX7_throwingMakes_13 rfl (lv_at hl 1 rfl) ?_
      refine lv_iload_n hx hb dX7_throwingMakes_14 rfl (lv_at hl 2 rfl) ?_
      obtain ⟨q5, e6, h⟩ := ob h
      refine fr_ir (M := (houseW cyI h0 t0 t1 t2 t3 t4 t5 t6 t7 t8 w0 w1 w2 w3 w4 w5 w6 w7 w8 w9 w10 mostWear keys boxes liveKeys liveBoxes parents makes wears keysOfBoxes number heldKeys heldWhats closers closerMakes stands)) (va_runV (As := [.int x1, .int x2]) (rest := []) ⟨hx, hb, hml, hown, hts⟩ (mX1_wrapsByThrowing l dC dI cyI cyO cyL h0 t0 t1 t2 t3 t4 t5 t6 t7 t8 w0 w1 w2 w3 w4 w5 w6 w7 w8 w9 w10 mostWear keys boxes liveKeys liveBoxes parents makes wears keysOfBoxes number heldKeys heldWhats closers closerMakes stands x1 x2 _ q5 e6) (cwV 2 hts (gV ml_X7_205 im_X1_wrapsByThrowing se_X1_wrapsByThrowing in_X1 co_X1_wrapsByThrowing) rfl rfl rfl (by decide +kernel) ⟨Nat.le_of_ble_eq_true rfl, Nat.le_of_ble_eq_true rfl⟩) (cP_V hK hP hD [1, 2, 3, 4, 5, 6, 7, 8, 9, 10, 11, 12, 13, 14, 15, 16, 17, 18, 19, 20, 21] rfl rfl 1 rfl rfl) rfl rfl hl.1 rfl (lv_room (Nat.le_of_ble_eq_true rfl)) dX7_throwingMakes_15 ⟨Nat.zero_le _, Nat.zero_le _⟩) hP hD hS hA [1, 2, 3, 4, 5, 6, 7, 8, 9, 10, 11, 12, 13, 14, 15, 16, 17, 18, 19, 20, 21] rfl (fun H locs hP hS => ?_)
      refine lv_goto (tgt := 23) hx hb dX7_throwingMakes_18 (by decide) ?_
      obtain rfl := Option.some.inj h
      exact e_i hx hb hr hlocks hP hS dX7_throwingMakes_23
